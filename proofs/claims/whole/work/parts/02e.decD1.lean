theorem dX12_takeLexicon_290 : decode cX12_takeLexicon 290 = .ok (.aload_n 0, 1) := by decide +kernel
theorem dX12_takeLexicon_291 : decode cX12_takeLexicon 291 = .ok (.iconst 0, 1) := by decide +kernel
theorem dX12_takeLexicon_292 : decode cX12_takeLexicon 292 = .ok (.putfield 283, 3) := by decide +kernel
theorem dX12_takeLexicon_295 : decode cX12_takeLexicon 295 = .ok (.aload_n 0, 1) := by decide +kernel
theorem dX12_takeLexicon_296 : decode cX12_takeLexicon 296 = .ok (.iconst 0, 1) := by decide +kernel
theorem dX12_takeLexicon_297 : decode cX12_takeLexicon 297 = .ok (.putfield 286, 3) := by decide +kernel
theorem dX12_takeLexicon_300 : decode cX12_takeLexicon 300 = .ok (.aload_n 0, 1) := by decide +kernel
theorem dX12_takeLexicon_301 : decode cX12_takeLexicon 301 = .ok (.getfield 269, 3) := by decide +kernel
theorem dX12_takeLexicon_304 : decode cX12_takeLexicon 304 = .ok (.ireturn, 1) := by decide +kernel
theorem dX12_text_0 : decode cX12_text 0 = .ok (.iload_n 1, 1) := by decide +kernel
theorem dX12_text_1 : decode cX12_text 1 = .ok (.ifCond .ne 21, 3) := by decide +kernel
theorem dX12_text_4 : decode cX12_text 4 = .ok (.aload_n 0, 1) := by decide +kernel
theorem dX12_text_5 : decode cX12_text 5 = .ok (.invokevirtual 263, 3) := by decide +kernel
theorem dX12_text_8 : decode cX12_text 8 = .ok (.iconst (-1), 1) := by decide +kernel
theorem dX12_text_9 : decode cX12_text 9 = .ok (.if_icmp .ne 13, 3) := by decide +kernel
theorem dX12_text_12 : decode cX12_text 12 = .ok (.aload_n 0, 1) := by decide +kernel
theorem dX12_text_13 : decode cX12_text 13 = .ok (.iconst 0, 1) := by decide +kernel
theorem dX12_text_14 : decode cX12_text 14 = .ok (.putfield 97, 3) := by decide +kernel
theorem dX12_text_17 : decode cX12_text 17 = .ok (.aload_n 0, 1) := by decide +kernel
theorem dX12_text_18 : decode cX12_text 18 = .ok (.invokevirtual 290, 3) := by decide +kernel
theorem dX12_text_21 : decode cX12_text 21 = .ok (.ireturn, 1) := by decide +kernel
theorem dX12_text_22 : decode cX12_text 22 = .ok (.iload_n 1, 1) := by decide +kernel
theorem dX12_text_23 : decode cX12_text 23 = .ok (.iconst 1, 1) := by decide +kernel
theorem dX12_text_24 : decode cX12_text 24 = .ok (.if_icmp .ne 45, 3) := by decide +kernel
theorem dX12_text_27 : decode cX12_text 27 = .ok (.aload_n 0, 1) := by decide +kernel
theorem dX12_text_28 : decode cX12_text 28 = .ok (.getfield 293, 3) := by decide +kernel
theorem dX12_text_31 : decode cX12_text 31 = .ok (.iconst 4, 1) := by decide +kernel
theorem dX12_text_32 : decode cX12_text 32 = .ok (.if_icmp .ge 37, 3) := by decide +kernel
theorem dX12_text_35 : decode cX12_text 35 = .ok (.aload_n 0, 1) := by decide +kernel
theorem dX12_text_36 : decode cX12_text 36 = .ok (.aload_n 0, 1) := by decide +kernel
theorem dX12_text_37 : decode cX12_text 37 = .ok (.getfield 293, 3) := by decide +kernel
theorem dX12_text_40 : decode cX12_text 40 = .ok (.invokevirtual 266, 3) := by decide +kernel
theorem dX12_text_43 : decode cX12_text 43 = .ok (.iconst (-1), 1) := by decide +kernel
theorem dX12_text_44 : decode cX12_text 44 = .ok (.if_icmp .ne 25, 3) := by decide +kernel
theorem dX12_text_47 : decode cX12_text 47 = .ok (.aload_n 0, 1) := by decide +kernel
theorem dX12_text_48 : decode cX12_text 48 = .ok (.iconst 0, 1) := by decide +kernel
theorem dX12_text_49 : decode cX12_text 49 = .ok (.putfield 97, 3) := by decide +kernel
theorem dX12_text_52 : decode cX12_text 52 = .ok (.aload_n 0, 1) := by decide +kernel
theorem dX12_text_53 : decode cX12_text 53 = .ok (.dup, 1) := by decide +kernel
theorem dX12_text_54 : decode cX12_text 54 = .ok (.getfield 293, 3) := by decide +kernel
theorem dX12_text_57 : decode cX12_text 57 = .ok (.iconst 1, 1) := by decide +kernel
theorem dX12_text_58 : decode cX12_text 58 = .ok (.iadd, 1) := by decide +kernel
theorem dX12_text_59 : decode cX12_text 59 = .ok (.putfield 293, 3) := by decide +kernel
theorem dX12_text_62 : decode cX12_text 62 = .ok (.aload_n 0, 1) := by decide +kernel
theorem dX12_text_63 : decode cX12_text 63 = .ok (.getfield 293, 3) := by decide +kernel
theorem dX12_text_66 : decode cX12_text 66 = .ok (.iconst 1, 1) := by decide +kernel
theorem dX12_text_67 : decode cX12_text 67 = .ok (.isub, 1) := by decide +kernel
theorem dX12_text_68 : decode cX12_text 68 = .ok (.ireturn, 1) := by decide +kernel
theorem dX12_text_69 : decode cX12_text 69 = .ok (.iconst (-1), 1) := by decide +kernel
theorem dX12_text_70 : decode cX12_text 70 = .ok (.ireturn, 1) := by decide +kernel
theorem dX12_told_0 : decode cX12_told 0 = .ok (.aload_n 0, 1) := by decide +kernel
theorem dX12_told_1 : decode cX12_told 1 = .ok (.getfield 47, 3) := by decide +kernel
theorem dX12_told_4 : decode cX12_told 4 = .ok (.bipush 7, 2) := by decide +kernel
theorem dX12_told_6 : decode cX12_told 6 = .ok (.bipush 8, 2) := by decide +kernel
theorem dX12_told_8 : decode cX12_told 8 = .ok (.iload_n 1, 1) := by decide +kernel
theorem dX12_told_9 : decode cX12_told 9 = .ok (.imul, 1) := by decide +kernel
theorem dX12_told_10 : decode cX12_told 10 = .ok (.iadd, 1) := by decide +kernel
theorem dX12_told_11 : decode cX12_told 11 = .ok (.iload_n 2, 1) := by decide +kernel
theorem dX12_told_12 : decode cX12_told 12 = .ok (.iload_n 3, 1) := by decide +kernel
theorem dX12_told_13 : decode cX12_told 13 = .ok (.invokestatic 195, 3) := by decide +kernel
theorem dX12_told_16 : decode cX12_told 16 = .ok (.iadd, 1) := by decide +kernel
theorem dX12_told_17 : decode cX12_told 17 = .ok (.laload, 1) := by decide +kernel
theorem dX12_told_18 : decode cX12_told 18 = .ok (.lreturn, 1) := by decide +kernel
theorem dX12_defaultOf_0 : decode cX12_defaultOf 0 = .ok (.aload_n 0, 1) := by decide +kernel
theorem dX12_defaultOf_1 : decode cX12_defaultOf 1 = .ok (.iload_n 1, 1) := by decide +kernel
theorem dX12_defaultOf_2 : decode cX12_defaultOf 2 = .ok (.iload_n 2, 1) := by decide +kernel
theorem dX12_defaultOf_3 : decode cX12_defaultOf 3 = .ok (.iload_n 3, 1) := by decide +kernel
theorem dX12_defaultOf_4 : decode cX12_defaultOf 4 = .ok (.invokevirtual 296, 3) := by decide +kernel
theorem dX12_defaultOf_7 : decode cX12_defaultOf 7 = .ok (.lconst 0, 1) := by decide +kernel
theorem dX12_defaultOf_8 : decode cX12_defaultOf 8 = .ok (.lcmp, 1) := by decide +kernel
theorem dX12_defaultOf_9 : decode cX12_defaultOf 9 = .ok (.ifCond .eq 5, 3) := by decide +kernel
theorem dX12_defaultOf_12 : decode cX12_defaultOf 12 = .ok (.iconst 0, 1) := by decide +kernel
theorem dX12_defaultOf_13 : decode cX12_defaultOf 13 = .ok (.ireturn, 1) := by decide +kernel
theorem dX12_defaultOf_14 : decode cX12_defaultOf 14 = .ok (.aload_n 0, 1) := by decide +kernel
theorem dX12_defaultOf_15 : decode cX12_defaultOf 15 = .ok (.iload_n 1, 1) := by decide +kernel
theorem dX12_defaultOf_16 : decode cX12_defaultOf 16 = .ok (.iconst 0, 1) := by decide +kernel
theorem dX12_defaultOf_17 : decode cX12_defaultOf 17 = .ok (.iload_n 3, 1) := by decide +kernel
theorem dX12_defaultOf_18 : decode cX12_defaultOf 18 = .ok (.invokevirtual 296, 3) := by decide +kernel
theorem dX12_defaultOf_21 : decode cX12_defaultOf 21 = .ok (.lconst 0, 1) := by decide +kernel
theorem dX12_defaultOf_22 : decode cX12_defaultOf 22 = .ok (.lcmp, 1) := by decide +kernel
theorem dX12_defaultOf_23 : decode cX12_defaultOf 23 = .ok (.ifCond .eq 5, 3) := by decide +kernel
theorem dX12_defaultOf_26 : decode cX12_defaultOf 26 = .ok (.iconst 1, 1) := by decide +kernel
theorem dX12_defaultOf_27 : decode cX12_defaultOf 27 = .ok (.ireturn, 1) := by decide +kernel
theorem dX12_defaultOf_28 : decode cX12_defaultOf 28 = .ok (.aload_n 0, 1) := by decide +kernel
theorem dX12_defaultOf_29 : decode cX12_defaultOf 29 = .ok (.iload_n 1, 1) := by decide +kernel
theorem dX12_defaultOf_30 : decode cX12_defaultOf 30 = .ok (.iload_n 2, 1) := by decide +kernel
theorem dX12_defaultOf_31 : decode cX12_defaultOf 31 = .ok (.iconst 0, 1) := by decide +kernel
theorem dX12_defaultOf_32 : decode cX12_defaultOf 32 = .ok (.invokevirtual 296, 3) := by decide +kernel
theorem dX12_defaultOf_35 : decode cX12_defaultOf 35 = .ok (.lconst 0, 1) := by decide +kernel
theorem dX12_defaultOf_36 : decode cX12_defaultOf 36 = .ok (.lcmp, 1) := by decide +kernel
theorem dX12_defaultOf_37 : decode cX12_defaultOf 37 = .ok (.ifCond .eq 5, 3) := by decide +kernel
theorem dX12_defaultOf_40 : decode cX12_defaultOf 40 = .ok (.iconst 2, 1) := by decide +kernel
theorem dX12_defaultOf_41 : decode cX12_defaultOf 41 = .ok (.ireturn, 1) := by decide +kernel
theorem dX12_defaultOf_42 : decode cX12_defaultOf 42 = .ok (.aload_n 0, 1) := by decide +kernel
theorem dX12_defaultOf_43 : decode cX12_defaultOf 43 = .ok (.iload_n 1, 1) := by decide +kernel
theorem dX12_defaultOf_44 : decode cX12_defaultOf 44 = .ok (.iconst 0, 1) := by decide +kernel
theorem dX12_defaultOf_45 : decode cX12_defaultOf 45 = .ok (.iconst 0, 1) := by decide +kernel
theorem dX12_defaultOf_46 : decode cX12_defaultOf 46 = .ok (.invokevirtual 296, 3) := by decide +kernel
theorem dX12_defaultOf_49 : decode cX12_defaultOf 49 = .ok (.lconst 0, 1) := by decide +kernel
theorem dX12_defaultOf_50 : decode cX12_defaultOf 50 = .ok (.lcmp, 1) := by decide +kernel
theorem dX12_defaultOf_51 : decode cX12_defaultOf 51 = .ok (.ifCond .eq 7, 3) := by decide +kernel
theorem dX12_defaultOf_54 : decode cX12_defaultOf 54 = .ok (.iconst 3, 1) := by decide +kernel
theorem dX12_defaultOf_55 : decode cX12_defaultOf 55 = .ok (.goto 4, 3) := by decide +kernel
theorem dX12_defaultOf_58 : decode cX12_defaultOf 58 = .ok (.iconst 4, 1) := by decide +kernel
theorem dX12_defaultOf_59 : decode cX12_defaultOf 59 = .ok (.ireturn, 1) := by decide +kernel
theorem dX12_formOf_0 : decode cX12_formOf 0 = .ok (.aload_n 0, 1) := by decide +kernel
theorem dX12_formOf_1 : decode cX12_formOf 1 = .ok (.iload_n 1, 1) := by decide +kernel
theorem dX12_formOf_2 : decode cX12_formOf 2 = .ok (.iload_n 2, 1) := by decide +kernel
theorem dX12_formOf_3 : decode cX12_formOf 3 = .ok (.iload_n 3, 1) := by decide +kernel
theorem dX12_formOf_4 : decode cX12_formOf 4 = .ok (.invokevirtual 300, 3) := by decide +kernel
theorem dX12_formOf_7 : decode cX12_formOf 7 = .ok (.tableswitch 61 0 3 #[29, 37, 45, 53], 29) := by decide +kernel
theorem dX12_formOf_36 : decode cX12_formOf 36 = .ok (.aload_n 0, 1) := by decide +kernel
theorem dX12_formOf_37 : decode cX12_formOf 37 = .ok (.iload_n 1, 1) := by decide +kernel
theorem dX12_formOf_38 : decode cX12_formOf 38 = .ok (.iload_n 2, 1) := by decide +kernel
theorem dX12_formOf_39 : decode cX12_formOf 39 = .ok (.iload_n 3, 1) := by decide +kernel
theorem dX12_formOf_40 : decode cX12_formOf 40 = .ok (.invokevirtual 296, 3) := by decide +kernel
theorem dX12_formOf_43 : decode cX12_formOf 43 = .ok (.lreturn, 1) := by decide +kernel
theorem dX12_formOf_44 : decode cX12_formOf 44 = .ok (.aload_n 0, 1) := by decide +kernel
theorem dX12_formOf_45 : decode cX12_formOf 45 = .ok (.iload_n 1, 1) := by decide +kernel
theorem dX12_formOf_46 : decode cX12_formOf 46 = .ok (.iconst 0, 1) := by decide +kernel
theorem dX12_formOf_47 : decode cX12_formOf 47 = .ok (.iload_n 3, 1) := by decide +kernel
theorem dX12_formOf_48 : decode cX12_formOf 48 = .ok (.invokevirtual 296, 3) := by decide +kernel
theorem dX12_formOf_51 : decode cX12_formOf 51 = .ok (.lreturn, 1) := by decide +kernel
theorem dX12_formOf_52 : decode cX12_formOf 52 = .ok (.aload_n 0, 1) := by decide +kernel
theorem dX12_formOf_53 : decode cX12_formOf 53 = .ok (.iload_n 1, 1) := by decide +kernel
theorem dX12_formOf_54 : decode cX12_formOf 54 = .ok (.iload_n 2, 1) := by decide +kernel
theorem dX12_formOf_55 : decode cX12_formOf 55 = .ok (.iconst 0, 1) := by decide +kernel
theorem dX12_formOf_56 : decode cX12_formOf 56 = .ok (.invokevirtual 296, 3) := by decide +kernel
theorem dX12_formOf_59 : decode cX12_formOf 59 = .ok (.lreturn, 1) := by decide +kernel
theorem dX12_formOf_60 : decode cX12_formOf 60 = .ok (.aload_n 0, 1) := by decide +kernel
theorem dX12_formOf_61 : decode cX12_formOf 61 = .ok (.iload_n 1, 1) := by decide +kernel
theorem dX12_formOf_62 : decode cX12_formOf 62 = .ok (.iconst 0, 1) := by decide +kernel
theorem dX12_formOf_63 : decode cX12_formOf 63 = .ok (.iconst 0, 1) := by decide +kernel
theorem dX12_formOf_64 : decode cX12_formOf 64 = .ok (.invokevirtual 296, 3) := by decide +kernel
theorem dX12_formOf_67 : decode cX12_formOf 67 = .ok (.lreturn, 1) := by decide +kernel
theorem dX12_formOf_68 : decode cX12_formOf 68 = .ok (.aload_n 0, 1) := by decide +kernel
theorem dX12_formOf_69 : decode cX12_formOf 69 = .ok (.getfield 53, 3) := by decide +kernel
theorem dX12_formOf_72 : decode cX12_formOf 72 = .ok (.iload_n 1, 1) := by decide +kernel
theorem dX12_formOf_73 : decode cX12_formOf 73 = .ok (.laload, 1) := by decide +kernel
theorem dX12_formOf_74 : decode cX12_formOf 74 = .ok (.lreturn, 1) := by decide +kernel
theorem dX12_wordOf_0 : decode cX12_wordOf 0 = .ok (.aload_n 0, 1) := by decide +kernel
theorem dX12_wordOf_1 : decode cX12_wordOf 1 = .ok (.getfield 59, 3) := by decide +kernel
theorem dX12_wordOf_4 : decode cX12_wordOf 4 = .ok (.iload_n 1, 1) := by decide +kernel
theorem dX12_wordOf_5 : decode cX12_wordOf 5 = .ok (.iload_n 2, 1) := by decide +kernel
theorem dX12_wordOf_6 : decode cX12_wordOf 6 = .ok (.iload_n 3, 1) := by decide +kernel
theorem dX12_wordOf_7 : decode cX12_wordOf 7 = .ok (.iload 4, 2) := by decide +kernel
theorem dX12_wordOf_9 : decode cX12_wordOf 9 = .ok (.invokestatic 198, 3) := by decide +kernel
theorem dX12_wordOf_12 : decode cX12_wordOf 12 = .ok (.laload, 1) := by decide +kernel
theorem dX12_wordOf_13 : decode cX12_wordOf 13 = .ok (.lstore 5, 2) := by decide +kernel
theorem dX12_wordOf_15 : decode cX12_wordOf 15 = .ok (.lload 5, 2) := by decide +kernel
theorem dX12_wordOf_17 : decode cX12_wordOf 17 = .ok (.lconst 0, 1) := by decide +kernel
theorem dX12_wordOf_18 : decode cX12_wordOf 18 = .ok (.lcmp, 1) := by decide +kernel
theorem dX12_wordOf_19 : decode cX12_wordOf 19 = .ok (.ifCond .eq 8, 3) := by decide +kernel
theorem dX12_wordOf_22 : decode cX12_wordOf 22 = .ok (.lload 5, 2) := by decide +kernel
theorem dX12_wordOf_24 : decode cX12_wordOf 24 = .ok (.goto 15, 3) := by decide +kernel
theorem dX12_wordOf_27 : decode cX12_wordOf 27 = .ok (.aload_n 0, 1) := by decide +kernel
theorem dX12_wordOf_28 : decode cX12_wordOf 28 = .ok (.getfield 59, 3) := by decide +kernel
theorem dX12_wordOf_31 : decode cX12_wordOf 31 = .ok (.iload_n 1, 1) := by decide +kernel
theorem dX12_wordOf_32 : decode cX12_wordOf 32 = .ok (.iload_n 2, 1) := by decide +kernel
theorem dX12_wordOf_33 : decode cX12_wordOf 33 = .ok (.iload_n 3, 1) := by decide +kernel
theorem dX12_wordOf_34 : decode cX12_wordOf 34 = .ok (.iconst 0, 1) := by decide +kernel
theorem dX12_wordOf_35 : decode cX12_wordOf 35 = .ok (.invokestatic 198, 3) := by decide +kernel
theorem dX12_wordOf_38 : decode cX12_wordOf 38 = .ok (.laload, 1) := by decide +kernel
theorem dX12_wordOf_39 : decode cX12_wordOf 39 = .ok (.lreturn, 1) := by decide +kernel
theorem dX12_isWordTold_0 : decode cX12_isWordTold 0 = .ok (.aload_n 0, 1) := by decide +kernel
theorem dX12_isWordTold_1 : decode cX12_isWordTold 1 = .ok (.getfield 59, 3) := by decide +kernel
theorem dX12_isWordTold_4 : decode cX12_isWordTold 4 = .ok (.iload_n 1, 1) := by decide +kernel
theorem dX12_isWordTold_5 : decode cX12_isWordTold 5 = .ok (.iload_n 2, 1) := by decide +kernel
theorem dX12_isWordTold_6 : decode cX12_isWordTold 6 = .ok (.iload_n 3, 1) := by decide +kernel
theorem dX12_isWordTold_7 : decode cX12_isWordTold 7 = .ok (.iload 4, 2) := by decide +kernel
theorem dX12_isWordTold_9 : decode cX12_isWordTold 9 = .ok (.invokestatic 198, 3) := by decide +kernel
theorem dX12_isWordTold_12 : decode cX12_isWordTold 12 = .ok (.laload, 1) := by decide +kernel
theorem dX12_isWordTold_13 : decode cX12_isWordTold 13 = .ok (.lconst 0, 1) := by decide +kernel
theorem dX12_isWordTold_14 : decode cX12_isWordTold 14 = .ok (.lcmp, 1) := by decide +kernel
theorem dX12_isWordTold_15 : decode cX12_isWordTold 15 = .ok (.ifCond .eq 7, 3) := by decide +kernel
theorem dX12_isWordTold_18 : decode cX12_isWordTold 18 = .ok (.iconst 1, 1) := by decide +kernel
theorem dX12_isWordTold_19 : decode cX12_isWordTold 19 = .ok (.goto 4, 3) := by decide +kernel
theorem dX12_isWordTold_22 : decode cX12_isWordTold 22 = .ok (.iconst 0, 1) := by decide +kernel
theorem dX12_isWordTold_23 : decode cX12_isWordTold 23 = .ok (.ireturn, 1) := by decide +kernel
theorem dX12_lettersOf_0 : decode cX12_lettersOf 0 = .ok (.iconst 0, 1) := by decide +kernel
theorem dX12_lettersOf_1 : decode cX12_lettersOf 1 = .ok (.istore_n 2, 1) := by decide +kernel
theorem dX12_lettersOf_2 : decode cX12_lettersOf 2 = .ok (.lload_n 0, 1) := by decide +kernel
theorem dX12_lettersOf_3 : decode cX12_lettersOf 3 = .ok (.lstore_n 3, 1) := by decide +kernel
theorem dX12_lettersOf_4 : decode cX12_lettersOf 4 = .ok (.lload_n 3, 1) := by decide +kernel
theorem dX12_lettersOf_5 : decode cX12_lettersOf 5 = .ok (.lconst 0, 1) := by decide +kernel
theorem dX12_lettersOf_6 : decode cX12_lettersOf 6 = .ok (.lcmp, 1) := by decide +kernel
theorem dX12_lettersOf_7 : decode cX12_lettersOf 7 = .ok (.ifCond .le 15, 3) := by decide +kernel
theorem dX12_lettersOf_10 : decode cX12_lettersOf 10 = .ok (.iinc 2 1, 3) := by decide +kernel
theorem dX12_lettersOf_13 : decode cX12_lettersOf 13 = .ok (.lload_n 3, 1) := by decide +kernel
theorem dX12_lettersOf_14 : decode cX12_lettersOf 14 = .ok (.ldc2_w 122, 3) := by decide +kernel
theorem dX12_lettersOf_17 : decode cX12_lettersOf 17 = .ok (.ldiv, 1) := by decide +kernel
theorem dX12_lettersOf_18 : decode cX12_lettersOf 18 = .ok (.lstore_n 3, 1) := by decide +kernel
theorem dX12_lettersOf_19 : decode cX12_lettersOf 19 = .ok (.goto (-15), 3) := by decide +kernel
theorem dX12_lettersOf_22 : decode cX12_lettersOf 22 = .ok (.iload_n 2, 1) := by decide +kernel
theorem dX12_lettersOf_23 : decode cX12_lettersOf 23 = .ok (.ireturn, 1) := by decide +kernel
theorem dX12_letterOf_0 : decode cX12_letterOf 0 = .ok (.lload_n 0, 1) := by decide +kernel
theorem dX12_letterOf_1 : decode cX12_letterOf 1 = .ok (.lstore_n 3, 1) := by decide +kernel
theorem dX12_letterOf_2 : decode cX12_letterOf 2 = .ok (.lload_n 0, 1) := by decide +kernel
theorem dX12_letterOf_3 : decode cX12_letterOf 3 = .ok (.invokestatic 304, 3) := by decide +kernel
theorem dX12_letterOf_6 : decode cX12_letterOf 6 = .ok (.iconst 1, 1) := by decide +kernel
theorem dX12_letterOf_7 : decode cX12_letterOf 7 = .ok (.isub, 1) := by decide +kernel
theorem dX12_letterOf_8 : decode cX12_letterOf 8 = .ok (.istore 5, 2) := by decide +kernel
theorem dX12_letterOf_10 : decode cX12_letterOf 10 = .ok (.iload 5, 2) := by decide +kernel
theorem dX12_letterOf_12 : decode cX12_letterOf 12 = .ok (.iload_n 2, 1) := by decide +kernel
theorem dX12_letterOf_13 : decode cX12_letterOf 13 = .ok (.if_icmp .le 15, 3) := by decide +kernel
theorem dX12_letterOf_16 : decode cX12_letterOf 16 = .ok (.lload_n 3, 1) := by decide +kernel
theorem dX12_letterOf_17 : decode cX12_letterOf 17 = .ok (.ldc2_w 122, 3) := by decide +kernel
theorem dX12_letterOf_20 : decode cX12_letterOf 20 = .ok (.ldiv, 1) := by decide +kernel
theorem dX12_letterOf_21 : decode cX12_letterOf 21 = .ok (.lstore_n 3, 1) := by decide +kernel
theorem dX12_letterOf_22 : decode cX12_letterOf 22 = .ok (.iinc 5 (-1), 3) := by decide +kernel
theorem dX12_letterOf_25 : decode cX12_letterOf 25 = .ok (.goto (-15), 3) := by decide +kernel
theorem dX12_letterOf_28 : decode cX12_letterOf 28 = .ok (.bipush 97, 2) := by decide +kernel
theorem dX12_letterOf_30 : decode cX12_letterOf 30 = .ok (.lload_n 3, 1) := by decide +kernel
theorem dX12_letterOf_31 : decode cX12_letterOf 31 = .ok (.ldc2_w 122, 3) := by decide +kernel
theorem dX12_letterOf_34 : decode cX12_letterOf 34 = .ok (.lrem, 1) := by decide +kernel
theorem dX12_letterOf_35 : decode cX12_letterOf 35 = .ok (.l2i, 1) := by decide +kernel
theorem dX12_letterOf_36 : decode cX12_letterOf 36 = .ok (.iadd, 1) := by decide +kernel
theorem dX12_letterOf_37 : decode cX12_letterOf 37 = .ok (.iconst 1, 1) := by decide +kernel
theorem dX12_letterOf_38 : decode cX12_letterOf 38 = .ok (.isub, 1) := by decide +kernel
theorem dX12_letterOf_39 : decode cX12_letterOf 39 = .ok (.ireturn, 1) := by decide +kernel
theorem dX12_says_0 : decode cX12_says 0 = .ok (.aload_n 0, 1) := by decide +kernel
theorem dX12_says_1 : decode cX12_says 1 = .ok (.getfield 71, 3) := by decide +kernel
theorem dX12_says_4 : decode cX12_says 4 = .ok (.aload_n 0, 1) := by decide +kernel
theorem dX12_says_5 : decode cX12_says 5 = .ok (.getfield 308, 3) := by decide +kernel
theorem dX12_says_8 : decode cX12_says 8 = .ok (.iload_n 1, 1) := by decide +kernel
theorem dX12_says_9 : decode cX12_says 9 = .ok (.iastore, 1) := by decide +kernel
theorem dX12_says_10 : decode cX12_says 10 = .ok (.aload_n 0, 1) := by decide +kernel
theorem dX12_says_11 : decode cX12_says 11 = .ok (.dup, 1) := by decide +kernel
theorem dX12_says_12 : decode cX12_says 12 = .ok (.getfield 308, 3) := by decide +kernel
theorem dX12_says_15 : decode cX12_says 15 = .ok (.iconst 1, 1) := by decide +kernel
theorem dX12_says_16 : decode cX12_says 16 = .ok (.iadd, 1) := by decide +kernel
theorem dX12_says_17 : decode cX12_says 17 = .ok (.putfield 308, 3) := by decide +kernel
theorem dX12_says_20 : decode cX12_says 20 = .ok (.return_, 1) := by decide +kernel
theorem dX12_gap_0 : decode cX12_gap 0 = .ok (.aload_n 0, 1) := by decide +kernel
theorem dX12_gap_1 : decode cX12_gap 1 = .ok (.getfield 308, 3) := by decide +kernel
theorem dX12_gap_4 : decode cX12_gap 4 = .ok (.ifCond .le 9, 3) := by decide +kernel
theorem dX12_gap_7 : decode cX12_gap 7 = .ok (.aload_n 0, 1) := by decide +kernel
theorem dX12_gap_8 : decode cX12_gap 8 = .ok (.bipush 32, 2) := by decide +kernel
theorem dX12_gap_10 : decode cX12_gap 10 = .ok (.invokevirtual 311, 3) := by decide +kernel
theorem dX12_gap_13 : decode cX12_gap 13 = .ok (.return_, 1) := by decide +kernel
theorem dX12_saysWord_0 : decode cX12_saysWord 0 = .ok (.lload_n 1, 1) := by decide +kernel
theorem dX12_saysWord_1 : decode cX12_saysWord 1 = .ok (.lconst 0, 1) := by decide +kernel
theorem dX12_saysWord_2 : decode cX12_saysWord 2 = .ok (.lcmp, 1) := by decide +kernel
theorem dX12_saysWord_3 : decode cX12_saysWord 3 = .ok (.ifCond .ne 4, 3) := by decide +kernel
theorem dX12_saysWord_6 : decode cX12_saysWord 6 = .ok (.return_, 1) := by decide +kernel
theorem dX12_saysWord_7 : decode cX12_saysWord 7 = .ok (.aload_n 0, 1) := by decide +kernel
theorem dX12_saysWord_8 : decode cX12_saysWord 8 = .ok (.invokevirtual 314, 3) := by decide +kernel
theorem dX12_saysWord_11 : decode cX12_saysWord 11 = .ok (.lload_n 1, 1) := by decide +kernel
theorem dX12_saysWord_12 : decode cX12_saysWord 12 = .ok (.invokestatic 304, 3) := by decide +kernel
theorem dX12_saysWord_15 : decode cX12_saysWord 15 = .ok (.istore_n 3, 1) := by decide +kernel
theorem dX12_saysWord_16 : decode cX12_saysWord 16 = .ok (.iconst 0, 1) := by decide +kernel
theorem dX12_saysWord_17 : decode cX12_saysWord 17 = .ok (.istore 4, 2) := by decide +kernel
theorem dX12_saysWord_19 : decode cX12_saysWord 19 = .ok (.iload 4, 2) := by decide +kernel
theorem dX12_saysWord_21 : decode cX12_saysWord 21 = .ok (.iload_n 3, 1) := by decide +kernel
theorem dX12_saysWord_22 : decode cX12_saysWord 22 = .ok (.if_icmp .ge 19, 3) := by decide +kernel
theorem dX12_saysWord_25 : decode cX12_saysWord 25 = .ok (.aload_n 0, 1) := by decide +kernel
theorem dX12_saysWord_26 : decode cX12_saysWord 26 = .ok (.lload_n 1, 1) := by decide +kernel
theorem dX12_saysWord_27 : decode cX12_saysWord 27 = .ok (.iload 4, 2) := by decide +kernel
theorem dX12_saysWord_29 : decode cX12_saysWord 29 = .ok (.invokestatic 317, 3) := by decide +kernel
theorem dX12_saysWord_32 : decode cX12_saysWord 32 = .ok (.invokevirtual 311, 3) := by decide +kernel
theorem dX12_saysWord_35 : decode cX12_saysWord 35 = .ok (.iinc 4 1, 3) := by decide +kernel
theorem dX12_saysWord_38 : decode cX12_saysWord 38 = .ok (.goto (-19), 3) := by decide +kernel
theorem dX12_saysWord_41 : decode cX12_saysWord 41 = .ok (.return_, 1) := by decide +kernel
theorem dX12_saysCount_0 : decode cX12_saysCount 0 = .ok (.aload_n 0, 1) := by decide +kernel
theorem dX12_saysCount_1 : decode cX12_saysCount 1 = .ok (.invokevirtual 314, 3) := by decide +kernel
theorem dX12_saysCount_4 : decode cX12_saysCount 4 = .ok (.iload_n 1, 1) := by decide +kernel
theorem dX12_saysCount_5 : decode cX12_saysCount 5 = .ok (.bipush 9, 2) := by decide +kernel
theorem dX12_saysCount_7 : decode cX12_saysCount 7 = .ok (.if_icmp .le 14, 3) := by decide +kernel
theorem dX12_saysCount_10 : decode cX12_saysCount 10 = .ok (.aload_n 0, 1) := by decide +kernel
theorem dX12_saysCount_11 : decode cX12_saysCount 11 = .ok (.bipush 48, 2) := by decide +kernel
theorem dX12_saysCount_13 : decode cX12_saysCount 13 = .ok (.iload_n 1, 1) := by decide +kernel
theorem dX12_saysCount_14 : decode cX12_saysCount 14 = .ok (.bipush 10, 2) := by decide +kernel
theorem dX12_saysCount_16 : decode cX12_saysCount 16 = .ok (.idiv, 1) := by decide +kernel
theorem dX12_saysCount_17 : decode cX12_saysCount 17 = .ok (.iadd, 1) := by decide +kernel
theorem dX12_saysCount_18 : decode cX12_saysCount 18 = .ok (.invokevirtual 311, 3) := by decide +kernel
theorem dX12_saysCount_21 : decode cX12_saysCount 21 = .ok (.aload_n 0, 1) := by decide +kernel
theorem dX12_saysCount_22 : decode cX12_saysCount 22 = .ok (.bipush 48, 2) := by decide +kernel
theorem dX12_saysCount_24 : decode cX12_saysCount 24 = .ok (.iload_n 1, 1) := by decide +kernel
theorem dX12_saysCount_25 : decode cX12_saysCount 25 = .ok (.bipush 10, 2) := by decide +kernel
theorem dX12_saysCount_27 : decode cX12_saysCount 27 = .ok (.irem, 1) := by decide +kernel
theorem dX12_saysCount_28 : decode cX12_saysCount 28 = .ok (.iadd, 1) := by decide +kernel
theorem dX12_saysCount_29 : decode cX12_saysCount 29 = .ok (.invokevirtual 311, 3) := by decide +kernel
theorem dX12_saysCount_32 : decode cX12_saysCount 32 = .ok (.return_, 1) := by decide +kernel
theorem dX12_fails_0 : decode cX12_fails 0 = .ok (.aload_n 0, 1) := by decide +kernel
theorem dX12_fails_1 : decode cX12_fails 1 = .ok (.iload_n 1, 1) := by decide +kernel
theorem dX12_fails_2 : decode cX12_fails 2 = .ok (.putfield 321, 3) := by decide +kernel
theorem dX12_fails_5 : decode cX12_fails 5 = .ok (.aload_n 0, 1) := by decide +kernel
theorem dX12_fails_6 : decode cX12_fails 6 = .ok (.iload_n 2, 1) := by decide +kernel
theorem dX12_fails_7 : decode cX12_fails 7 = .ok (.putfield 324, 3) := by decide +kernel
theorem dX12_fails_10 : decode cX12_fails 10 = .ok (.aload_n 0, 1) := by decide +kernel
theorem dX12_fails_11 : decode cX12_fails 11 = .ok (.iload_n 3, 1) := by decide +kernel
theorem dX12_fails_12 : decode cX12_fails 12 = .ok (.putfield 327, 3) := by decide +kernel
theorem dX12_fails_15 : decode cX12_fails 15 = .ok (.return_, 1) := by decide +kernel
theorem dX12_whyItemNot_0 : decode cX12_whyItemNot 0 = .ok (.iload_n 1, 1) := by decide +kernel
theorem dX12_whyItemNot_1 : decode cX12_whyItemNot 1 = .ok (.ifCond .ne 5, 3) := by decide +kernel
theorem dX12_whyItemNot_4 : decode cX12_whyItemNot 4 = .ok (.iconst (-1), 1) := by decide +kernel
theorem dX12_whyItemNot_5 : decode cX12_whyItemNot 5 = .ok (.ireturn, 1) := by decide +kernel
theorem dX12_whyItemNot_6 : decode cX12_whyItemNot 6 = .ok (.aload_n 0, 1) := by decide +kernel
theorem dX12_whyItemNot_7 : decode cX12_whyItemNot 7 = .ok (.iload_n 2, 1) := by decide +kernel
theorem dX12_whyItemNot_8 : decode cX12_whyItemNot 8 = .ok (.invokevirtual 330, 3) := by decide +kernel
theorem dX12_whyItemNot_11 : decode cX12_whyItemNot 11 = .ok (.iconst (-1), 1) := by decide +kernel
theorem dX12_whyItemNot_12 : decode cX12_whyItemNot 12 = .ok (.if_icmp .eq 17, 3) := by decide +kernel
theorem dX12_whyItemNot_15 : decode cX12_whyItemNot 15 = .ok (.iload_n 1, 1) := by decide +kernel
theorem dX12_whyItemNot_16 : decode cX12_whyItemNot 16 = .ok (.iconst 5, 1) := by decide +kernel
theorem dX12_whyItemNot_17 : decode cX12_whyItemNot 17 = .ok (.if_icmp .lt 14, 3) := by decide +kernel
theorem dX12_whyItemNot_20 : decode cX12_whyItemNot 20 = .ok (.aload_n 0, 1) := by decide +kernel
theorem dX12_whyItemNot_21 : decode cX12_whyItemNot 21 = .ok (.iload_n 3, 1) := by decide +kernel
theorem dX12_whyItemNot_22 : decode cX12_whyItemNot 22 = .ok (.invokevirtual 330, 3) := by decide +kernel
theorem dX12_whyItemNot_25 : decode cX12_whyItemNot 25 = .ok (.iconst (-1), 1) := by decide +kernel
theorem dX12_whyItemNot_26 : decode cX12_whyItemNot 26 = .ok (.if_icmp .ne 5, 3) := by decide +kernel
theorem dX12_whyItemNot_29 : decode cX12_whyItemNot 29 = .ok (.iconst 0, 1) := by decide +kernel
theorem dX12_whyItemNot_30 : decode cX12_whyItemNot 30 = .ok (.ireturn, 1) := by decide +kernel
theorem dX12_whyItemNot_31 : decode cX12_whyItemNot 31 = .ok (.iload_n 1, 1) := by decide +kernel
theorem dX12_whyItemNot_32 : decode cX12_whyItemNot 32 = .ok (.iconst 5, 1) := by decide +kernel
theorem dX12_whyItemNot_33 : decode cX12_whyItemNot 33 = .ok (.if_icmp .ne 22, 3) := by decide +kernel
theorem dX12_whyItemNot_36 : decode cX12_whyItemNot 36 = .ok (.aload_n 0, 1) := by decide +kernel
theorem dX12_whyItemNot_37 : decode cX12_whyItemNot 37 = .ok (.iload_n 2, 1) := by decide +kernel
theorem dX12_whyItemNot_38 : decode cX12_whyItemNot 38 = .ok (.invokevirtual 333, 3) := by decide +kernel
theorem dX12_whyItemNot_41 : decode cX12_whyItemNot 41 = .ok (.aload_n 0, 1) := by decide +kernel
theorem dX12_whyItemNot_42 : decode cX12_whyItemNot 42 = .ok (.iload_n 3, 1) := by decide +kernel
theorem dX12_whyItemNot_43 : decode cX12_whyItemNot 43 = .ok (.invokevirtual 333, 3) := by decide +kernel
theorem dX12_whyItemNot_46 : decode cX12_whyItemNot 46 = .ok (.if_icmp .ne 7, 3) := by decide +kernel
theorem dX12_whyItemNot_49 : decode cX12_whyItemNot 49 = .ok (.iconst (-1), 1) := by decide +kernel
theorem dX12_whyItemNot_50 : decode cX12_whyItemNot 50 = .ok (.goto 4, 3) := by decide +kernel
theorem dX12_whyItemNot_53 : decode cX12_whyItemNot 53 = .ok (.iconst 2, 1) := by decide +kernel
theorem dX12_whyItemNot_54 : decode cX12_whyItemNot 54 = .ok (.ireturn, 1) := by decide +kernel
theorem dX12_whyItemNot_55 : decode cX12_whyItemNot 55 = .ok (.iload_n 1, 1) := by decide +kernel
theorem dX12_whyItemNot_56 : decode cX12_whyItemNot 56 = .ok (.bipush 6, 2) := by decide +kernel
theorem dX12_whyItemNot_58 : decode cX12_whyItemNot 58 = .ok (.if_icmp .ne 32, 3) := by decide +kernel
theorem dX12_whyItemNot_61 : decode cX12_whyItemNot 61 = .ok (.aload_n 0, 1) := by decide +kernel
theorem dX12_whyItemNot_62 : decode cX12_whyItemNot 62 = .ok (.getfield 56, 3) := by decide +kernel
theorem dX12_whyItemNot_65 : decode cX12_whyItemNot 65 = .ok (.aload_n 0, 1) := by decide +kernel
theorem dX12_whyItemNot_66 : decode cX12_whyItemNot 66 = .ok (.iload_n 2, 1) := by decide +kernel
theorem dX12_whyItemNot_67 : decode cX12_whyItemNot 67 = .ok (.invokevirtual 330, 3) := by decide +kernel
theorem dX12_whyItemNot_70 : decode cX12_whyItemNot 70 = .ok (.iaload, 1) := by decide +kernel
theorem dX12_whyItemNot_71 : decode cX12_whyItemNot 71 = .ok (.aload_n 0, 1) := by decide +kernel
theorem dX12_whyItemNot_72 : decode cX12_whyItemNot 72 = .ok (.getfield 56, 3) := by decide +kernel
theorem dX12_whyItemNot_75 : decode cX12_whyItemNot 75 = .ok (.aload_n 0, 1) := by decide +kernel
theorem dX12_whyItemNot_76 : decode cX12_whyItemNot 76 = .ok (.iload_n 3, 1) := by decide +kernel
theorem dX12_whyItemNot_77 : decode cX12_whyItemNot 77 = .ok (.invokevirtual 330, 3) := by decide +kernel
theorem dX12_whyItemNot_80 : decode cX12_whyItemNot 80 = .ok (.iaload, 1) := by decide +kernel
theorem dX12_whyItemNot_81 : decode cX12_whyItemNot 81 = .ok (.if_icmp .ne 7, 3) := by decide +kernel
theorem dX12_whyItemNot_84 : decode cX12_whyItemNot 84 = .ok (.iconst (-1), 1) := by decide +kernel
theorem dX12_whyItemNot_85 : decode cX12_whyItemNot 85 = .ok (.goto 4, 3) := by decide +kernel
theorem dX12_whyItemNot_88 : decode cX12_whyItemNot 88 = .ok (.iconst 3, 1) := by decide +kernel
theorem dX12_whyItemNot_89 : decode cX12_whyItemNot 89 = .ok (.ireturn, 1) := by decide +kernel
theorem dX12_whyItemNot_90 : decode cX12_whyItemNot 90 = .ok (.aload_n 0, 1) := by decide +kernel
theorem dX12_whyItemNot_91 : decode cX12_whyItemNot 91 = .ok (.getfield 47, 3) := by decide +kernel
theorem dX12_whyItemNot_94 : decode cX12_whyItemNot 94 = .ok (.iconst 0, 1) := by decide +kernel
theorem dX12_whyItemNot_95 : decode cX12_whyItemNot 95 = .ok (.laload, 1) := by decide +kernel
theorem dX12_whyItemNot_96 : decode cX12_whyItemNot 96 = .ok (.lconst 0, 1) := by decide +kernel
theorem dX12_whyItemNot_97 : decode cX12_whyItemNot 97 = .ok (.lcmp, 1) := by decide +kernel
theorem dX12_whyItemNot_98 : decode cX12_whyItemNot 98 = .ok (.ifCond .eq 8, 3) := by decide +kernel
theorem dX12_whyItemNot_101 : decode cX12_whyItemNot 101 = .ok (.iload_n 1, 1) := by decide +kernel
theorem dX12_whyItemNot_102 : decode cX12_whyItemNot 102 = .ok (.iconst 4, 1) := by decide +kernel
theorem dX12_whyItemNot_103 : decode cX12_whyItemNot 103 = .ok (.if_icmp .ne 5, 3) := by decide +kernel
theorem dX12_whyItemNot_106 : decode cX12_whyItemNot 106 = .ok (.iconst (-1), 1) := by decide +kernel
theorem dX12_whyItemNot_107 : decode cX12_whyItemNot 107 = .ok (.ireturn, 1) := by decide +kernel
theorem dX12_whyItemNot_108 : decode cX12_whyItemNot 108 = .ok (.iload_n 1, 1) := by decide +kernel
theorem dX12_whyItemNot_109 : decode cX12_whyItemNot 109 = .ok (.iconst 1, 1) := by decide +kernel
theorem dX12_whyItemNot_110 : decode cX12_whyItemNot 110 = .ok (.if_icmp .eq 38, 3) := by decide +kernel
theorem dX12_whyItemNot_113 : decode cX12_whyItemNot 113 = .ok (.aload_n 0, 1) := by decide +kernel
theorem dX12_whyItemNot_114 : decode cX12_whyItemNot 114 = .ok (.iload_n 1, 1) := by decide +kernel
theorem dX12_whyItemNot_115 : decode cX12_whyItemNot 115 = .ok (.iconst 3, 1) := by decide +kernel
theorem dX12_whyItemNot_116 : decode cX12_whyItemNot 116 = .ok (.if_icmp .ne 7, 3) := by decide +kernel
theorem dX12_whyItemNot_119 : decode cX12_whyItemNot 119 = .ok (.iconst 1, 1) := by decide +kernel
theorem dX12_whyItemNot_120 : decode cX12_whyItemNot 120 = .ok (.goto 4, 3) := by decide +kernel
theorem dX12_whyItemNot_123 : decode cX12_whyItemNot 123 = .ok (.iconst 0, 1) := by decide +kernel
theorem dX12_whyItemNot_124 : decode cX12_whyItemNot 124 = .ok (.iload_n 3, 1) := by decide +kernel
theorem dX12_whyItemNot_125 : decode cX12_whyItemNot 125 = .ok (.aload_n 0, 1) := by decide +kernel
theorem dX12_whyItemNot_126 : decode cX12_whyItemNot 126 = .ok (.iload_n 2, 1) := by decide +kernel
theorem dX12_whyItemNot_127 : decode cX12_whyItemNot 127 = .ok (.invokevirtual 333, 3) := by decide +kernel
theorem dX12_whyItemNot_130 : decode cX12_whyItemNot 130 = .ok (.aload_n 0, 1) := by decide +kernel
theorem dX12_whyItemNot_131 : decode cX12_whyItemNot 131 = .ok (.getfield 56, 3) := by decide +kernel
theorem dX12_whyItemNot_134 : decode cX12_whyItemNot 134 = .ok (.aload_n 0, 1) := by decide +kernel
theorem dX12_whyItemNot_135 : decode cX12_whyItemNot 135 = .ok (.iload_n 2, 1) := by decide +kernel
theorem dX12_whyItemNot_136 : decode cX12_whyItemNot 136 = .ok (.invokevirtual 330, 3) := by decide +kernel
theorem dX12_whyItemNot_139 : decode cX12_whyItemNot 139 = .ok (.iaload, 1) := by decide +kernel
theorem dX12_whyItemNot_140 : decode cX12_whyItemNot 140 = .ok (.invokevirtual 336, 3) := by decide +kernel
theorem dX12_whyItemNot_143 : decode cX12_whyItemNot 143 = .ok (.ifCond .ne 5, 3) := by decide +kernel
theorem dX12_whyItemNot_146 : decode cX12_whyItemNot 146 = .ok (.iconst 4, 1) := by decide +kernel
theorem dX12_whyItemNot_147 : decode cX12_whyItemNot 147 = .ok (.ireturn, 1) := by decide +kernel
theorem dX12_whyItemNot_148 : decode cX12_whyItemNot 148 = .ok (.iload_n 1, 1) := by decide +kernel
theorem dX12_whyItemNot_149 : decode cX12_whyItemNot 149 = .ok (.iconst 3, 1) := by decide +kernel
theorem dX12_whyItemNot_150 : decode cX12_whyItemNot 150 = .ok (.if_icmp .eq 25, 3) := by decide +kernel
theorem dX12_whyItemNot_153 : decode cX12_whyItemNot 153 = .ok (.aload_n 0, 1) := by decide +kernel
theorem dX12_whyItemNot_154 : decode cX12_whyItemNot 154 = .ok (.aload_n 0, 1) := by decide +kernel
theorem dX12_whyItemNot_155 : decode cX12_whyItemNot 155 = .ok (.iload_n 2, 1) := by decide +kernel
theorem dX12_whyItemNot_156 : decode cX12_whyItemNot 156 = .ok (.invokevirtual 330, 3) := by decide +kernel
theorem dX12_whyItemNot_159 : decode cX12_whyItemNot 159 = .ok (.iload_n 3, 1) := by decide +kernel
theorem dX12_whyItemNot_160 : decode cX12_whyItemNot 160 = .ok (.aload_n 0, 1) := by decide +kernel
theorem dX12_whyItemNot_161 : decode cX12_whyItemNot 161 = .ok (.iload_n 2, 1) := by decide +kernel
theorem dX12_whyItemNot_162 : decode cX12_whyItemNot 162 = .ok (.invokevirtual 333, 3) := by decide +kernel
theorem dX12_whyItemNot_165 : decode cX12_whyItemNot 165 = .ok (.invokevirtual 300, 3) := by decide +kernel
theorem dX12_whyItemNot_168 : decode cX12_whyItemNot 168 = .ok (.ifCond .le 7, 3) := by decide +kernel
theorem dX12_whyItemNot_171 : decode cX12_whyItemNot 171 = .ok (.iconst 1, 1) := by decide +kernel
theorem dX12_whyItemNot_172 : decode cX12_whyItemNot 172 = .ok (.goto 4, 3) := by decide +kernel
theorem dX12_whyItemNot_175 : decode cX12_whyItemNot 175 = .ok (.iconst (-1), 1) := by decide +kernel
theorem dX12_whyItemNot_176 : decode cX12_whyItemNot 176 = .ok (.ireturn, 1) := by decide +kernel
theorem dX12_saysItem_0 : decode cX12_saysItem 0 = .ok (.aload_n 0, 1) := by decide +kernel
theorem dX12_saysItem_1 : decode cX12_saysItem 1 = .ok (.getfield 65, 3) := by decide +kernel
theorem dX12_saysItem_4 : decode cX12_saysItem 4 = .ok (.iconst 3, 1) := by decide +kernel
theorem dX12_saysItem_5 : decode cX12_saysItem 5 = .ok (.iload_n 1, 1) := by decide +kernel
theorem dX12_saysItem_6 : decode cX12_saysItem 6 = .ok (.imul, 1) := by decide +kernel
theorem dX12_saysItem_7 : decode cX12_saysItem 7 = .ok (.iaload, 1) := by decide +kernel
theorem dX12_saysItem_8 : decode cX12_saysItem 8 = .ok (.istore_n 2, 1) := by decide +kernel
theorem dX12_saysItem_9 : decode cX12_saysItem 9 = .ok (.aload_n 0, 1) := by decide +kernel
theorem dX12_saysItem_10 : decode cX12_saysItem 10 = .ok (.getfield 65, 3) := by decide +kernel
theorem dX12_saysItem_13 : decode cX12_saysItem 13 = .ok (.iconst 3, 1) := by decide +kernel
theorem dX12_saysItem_14 : decode cX12_saysItem 14 = .ok (.iload_n 1, 1) := by decide +kernel
theorem dX12_saysItem_15 : decode cX12_saysItem 15 = .ok (.imul, 1) := by decide +kernel
theorem dX12_saysItem_16 : decode cX12_saysItem 16 = .ok (.iconst 1, 1) := by decide +kernel
theorem dX12_saysItem_17 : decode cX12_saysItem 17 = .ok (.iadd, 1) := by decide +kernel
theorem dX12_saysItem_18 : decode cX12_saysItem 18 = .ok (.iaload, 1) := by decide +kernel
theorem dX12_saysItem_19 : decode cX12_saysItem 19 = .ok (.istore_n 3, 1) := by decide +kernel
theorem dX12_saysItem_20 : decode cX12_saysItem 20 = .ok (.aload_n 0, 1) := by decide +kernel
theorem dX12_saysItem_21 : decode cX12_saysItem 21 = .ok (.getfield 65, 3) := by decide +kernel
theorem dX12_saysItem_24 : decode cX12_saysItem 24 = .ok (.iconst 3, 1) := by decide +kernel
theorem dX12_saysItem_25 : decode cX12_saysItem 25 = .ok (.iload_n 1, 1) := by decide +kernel
theorem dX12_saysItem_26 : decode cX12_saysItem 26 = .ok (.imul, 1) := by decide +kernel
theorem dX12_saysItem_27 : decode cX12_saysItem 27 = .ok (.iconst 2, 1) := by decide +kernel
theorem dX12_saysItem_28 : decode cX12_saysItem 28 = .ok (.iadd, 1) := by decide +kernel
theorem dX12_saysItem_29 : decode cX12_saysItem 29 = .ok (.iaload, 1) := by decide +kernel
theorem dX12_saysItem_30 : decode cX12_saysItem 30 = .ok (.istore 4, 2) := by decide +kernel
theorem dX12_saysItem_32 : decode cX12_saysItem 32 = .ok (.iload_n 2, 1) := by decide +kernel
theorem dX12_saysItem_33 : decode cX12_saysItem 33 = .ok (.ifCond .ne 16, 3) := by decide +kernel
theorem dX12_saysItem_36 : decode cX12_saysItem 36 = .ok (.aload_n 0, 1) := by decide +kernel
theorem dX12_saysItem_37 : decode cX12_saysItem 37 = .ok (.aload_n 0, 1) := by decide +kernel
theorem dX12_saysItem_38 : decode cX12_saysItem 38 = .ok (.getfield 68, 3) := by decide +kernel
theorem dX12_saysItem_41 : decode cX12_saysItem 41 = .ok (.iload_n 1, 1) := by decide +kernel
theorem dX12_saysItem_42 : decode cX12_saysItem 42 = .ok (.laload, 1) := by decide +kernel
theorem dX12_saysItem_43 : decode cX12_saysItem 43 = .ok (.invokevirtual 340, 3) := by decide +kernel
theorem dX12_saysItem_46 : decode cX12_saysItem 46 = .ok (.goto 90, 3) := by decide +kernel
theorem dX12_saysItem_49 : decode cX12_saysItem 49 = .ok (.iload_n 2, 1) := by decide +kernel
theorem dX12_saysItem_50 : decode cX12_saysItem 50 = .ok (.iconst 4, 1) := by decide +kernel
theorem dX12_saysItem_51 : decode cX12_saysItem 51 = .ok (.if_icmp .ne 15, 3) := by decide +kernel
theorem dX12_saysItem_54 : decode cX12_saysItem 54 = .ok (.aload_n 0, 1) := by decide +kernel
theorem dX12_saysItem_55 : decode cX12_saysItem 55 = .ok (.aload_n 0, 1) := by decide +kernel
theorem dX12_saysItem_56 : decode cX12_saysItem 56 = .ok (.iload_n 3, 1) := by decide +kernel
theorem dX12_saysItem_57 : decode cX12_saysItem 57 = .ok (.invokevirtual 278, 3) := by decide +kernel
theorem dX12_saysItem_60 : decode cX12_saysItem 60 = .ok (.invokevirtual 344, 3) := by decide +kernel
theorem dX12_saysItem_63 : decode cX12_saysItem 63 = .ok (.goto 73, 3) := by decide +kernel
theorem dX12_saysItem_66 : decode cX12_saysItem 66 = .ok (.iload_n 2, 1) := by decide +kernel
theorem dX12_saysItem_67 : decode cX12_saysItem 67 = .ok (.iconst 5, 1) := by decide +kernel
theorem dX12_saysItem_68 : decode cX12_saysItem 68 = .ok (.if_icmp .ge 68, 3) := by decide +kernel
theorem dX12_saysItem_71 : decode cX12_saysItem 71 = .ok (.iload_n 2, 1) := by decide +kernel
theorem dX12_saysItem_72 : decode cX12_saysItem 72 = .ok (.iconst 1, 1) := by decide +kernel
theorem dX12_saysItem_73 : decode cX12_saysItem 73 = .ok (.if_icmp .eq 38, 3) := by decide +kernel
theorem dX12_saysItem_76 : decode cX12_saysItem 76 = .ok (.aload_n 0, 1) := by decide +kernel
theorem dX12_saysItem_77 : decode cX12_saysItem 77 = .ok (.aload_n 0, 1) := by decide +kernel
theorem dX12_saysItem_78 : decode cX12_saysItem 78 = .ok (.iload_n 2, 1) := by decide +kernel
theorem dX12_saysItem_79 : decode cX12_saysItem 79 = .ok (.iconst 3, 1) := by decide +kernel
theorem dX12_saysItem_80 : decode cX12_saysItem 80 = .ok (.if_icmp .ne 7, 3) := by decide +kernel
theorem dX12_saysItem_83 : decode cX12_saysItem 83 = .ok (.iconst 1, 1) := by decide +kernel
theorem dX12_saysItem_84 : decode cX12_saysItem 84 = .ok (.goto 4, 3) := by decide +kernel
theorem dX12_saysItem_87 : decode cX12_saysItem 87 = .ok (.iconst 0, 1) := by decide +kernel
theorem dX12_saysItem_88 : decode cX12_saysItem 88 = .ok (.iload 4, 2) := by decide +kernel
theorem dX12_saysItem_90 : decode cX12_saysItem 90 = .ok (.aload_n 0, 1) := by decide +kernel
theorem dX12_saysItem_91 : decode cX12_saysItem 91 = .ok (.iload_n 3, 1) := by decide +kernel
theorem dX12_saysItem_92 : decode cX12_saysItem 92 = .ok (.invokevirtual 333, 3) := by decide +kernel
theorem dX12_saysItem_95 : decode cX12_saysItem 95 = .ok (.aload_n 0, 1) := by decide +kernel
theorem dX12_saysItem_96 : decode cX12_saysItem 96 = .ok (.getfield 56, 3) := by decide +kernel
theorem dX12_saysItem_99 : decode cX12_saysItem 99 = .ok (.aload_n 0, 1) := by decide +kernel
theorem dX12_saysItem_100 : decode cX12_saysItem 100 = .ok (.iload_n 3, 1) := by decide +kernel
theorem dX12_saysItem_101 : decode cX12_saysItem 101 = .ok (.invokevirtual 330, 3) := by decide +kernel
theorem dX12_saysItem_104 : decode cX12_saysItem 104 = .ok (.iaload, 1) := by decide +kernel
theorem dX12_saysItem_105 : decode cX12_saysItem 105 = .ok (.invokevirtual 347, 3) := by decide +kernel
theorem dX12_saysItem_108 : decode cX12_saysItem 108 = .ok (.invokevirtual 340, 3) := by decide +kernel
theorem dX12_saysItem_111 : decode cX12_saysItem 111 = .ok (.iload_n 2, 1) := by decide +kernel
theorem dX12_saysItem_112 : decode cX12_saysItem 112 = .ok (.iconst 3, 1) := by decide +kernel
theorem dX12_saysItem_113 : decode cX12_saysItem 113 = .ok (.if_icmp .eq 23, 3) := by decide +kernel
theorem dX12_saysItem_116 : decode cX12_saysItem 116 = .ok (.aload_n 0, 1) := by decide +kernel
theorem dX12_saysItem_117 : decode cX12_saysItem 117 = .ok (.aload_n 0, 1) := by decide +kernel
theorem dX12_saysItem_118 : decode cX12_saysItem 118 = .ok (.aload_n 0, 1) := by decide +kernel
theorem dX12_saysItem_119 : decode cX12_saysItem 119 = .ok (.iload_n 3, 1) := by decide +kernel
theorem dX12_saysItem_120 : decode cX12_saysItem 120 = .ok (.invokevirtual 330, 3) := by decide +kernel
theorem dX12_saysItem_123 : decode cX12_saysItem 123 = .ok (.iload 4, 2) := by decide +kernel
theorem dX12_saysItem_125 : decode cX12_saysItem 125 = .ok (.aload_n 0, 1) := by decide +kernel
theorem dX12_saysItem_126 : decode cX12_saysItem 126 = .ok (.iload_n 3, 1) := by decide +kernel
theorem dX12_saysItem_127 : decode cX12_saysItem 127 = .ok (.invokevirtual 333, 3) := by decide +kernel
theorem dX12_saysItem_130 : decode cX12_saysItem 130 = .ok (.invokevirtual 351, 3) := by decide +kernel
theorem dX12_saysItem_133 : decode cX12_saysItem 133 = .ok (.invokevirtual 340, 3) := by decide +kernel
theorem dX12_saysItem_136 : decode cX12_saysItem 136 = .ok (.return_, 1) := by decide +kernel
theorem dX12_tellsNow_0 : decode cX12_tellsNow 0 = .ok (.aload_n 0, 1) := by decide +kernel
theorem dX12_tellsNow_1 : decode cX12_tellsNow 1 = .ok (.iconst 0, 1) := by decide +kernel
theorem dX12_tellsNow_2 : decode cX12_tellsNow 2 = .ok (.putfield 308, 3) := by decide +kernel
theorem dX12_tellsNow_5 : decode cX12_tellsNow 5 = .ok (.aload_n 0, 1) := by decide +kernel
theorem dX12_tellsNow_6 : decode cX12_tellsNow 6 = .ok (.iconst (-1), 1) := by decide +kernel
theorem dX12_tellsNow_7 : decode cX12_tellsNow 7 = .ok (.putfield 327, 3) := by decide +kernel
theorem dX12_tellsNow_10 : decode cX12_tellsNow 10 = .ok (.iconst 0, 1) := by decide +kernel
theorem dX12_tellsNow_11 : decode cX12_tellsNow 11 = .ok (.istore_n 2, 1) := by decide +kernel
theorem dX12_tellsNow_12 : decode cX12_tellsNow 12 = .ok (.iload_n 2, 1) := by decide +kernel
theorem dX12_tellsNow_13 : decode cX12_tellsNow 13 = .ok (.aload_n 0, 1) := by decide +kernel
theorem dX12_tellsNow_14 : decode cX12_tellsNow 14 = .ok (.getfield 62, 3) := by decide +kernel
theorem dX12_tellsNow_17 : decode cX12_tellsNow 17 = .ok (.iload_n 1, 1) := by decide +kernel
theorem dX12_tellsNow_18 : decode cX12_tellsNow 18 = .ok (.iaload, 1) := by decide +kernel
theorem dX12_tellsNow_19 : decode cX12_tellsNow 19 = .ok (.if_icmp .ge 133, 3) := by decide +kernel
theorem dX12_tellsNow_22 : decode cX12_tellsNow 22 = .ok (.aload_n 0, 1) := by decide +kernel
theorem dX12_tellsNow_23 : decode cX12_tellsNow 23 = .ok (.getfield 327, 3) := by decide +kernel
theorem dX12_tellsNow_26 : decode cX12_tellsNow 26 = .ok (.iconst (-1), 1) := by decide +kernel
theorem dX12_tellsNow_27 : decode cX12_tellsNow 27 = .ok (.if_icmp .ne 125, 3) := by decide +kernel
theorem dX12_tellsNow_30 : decode cX12_tellsNow 30 = .ok (.bipush 8, 2) := by decide +kernel
theorem dX12_tellsNow_32 : decode cX12_tellsNow 32 = .ok (.iload_n 1, 1) := by decide +kernel
theorem dX12_tellsNow_33 : decode cX12_tellsNow 33 = .ok (.imul, 1) := by decide +kernel
theorem dX12_tellsNow_34 : decode cX12_tellsNow 34 = .ok (.iload_n 2, 1) := by decide +kernel
theorem dX12_tellsNow_35 : decode cX12_tellsNow 35 = .ok (.iadd, 1) := by decide +kernel
theorem dX12_tellsNow_36 : decode cX12_tellsNow 36 = .ok (.istore_n 3, 1) := by decide +kernel
theorem dX12_tellsNow_37 : decode cX12_tellsNow 37 = .ok (.aload_n 0, 1) := by decide +kernel
theorem dX12_tellsNow_38 : decode cX12_tellsNow 38 = .ok (.getfield 65, 3) := by decide +kernel
theorem dX12_tellsNow_41 : decode cX12_tellsNow 41 = .ok (.iconst 3, 1) := by decide +kernel
theorem dX12_tellsNow_42 : decode cX12_tellsNow 42 = .ok (.iload_n 3, 1) := by decide +kernel
theorem dX12_tellsNow_43 : decode cX12_tellsNow 43 = .ok (.imul, 1) := by decide +kernel
theorem dX12_tellsNow_44 : decode cX12_tellsNow 44 = .ok (.iconst 1, 1) := by decide +kernel
theorem dX12_tellsNow_45 : decode cX12_tellsNow 45 = .ok (.iadd, 1) := by decide +kernel
theorem dX12_tellsNow_46 : decode cX12_tellsNow 46 = .ok (.iaload, 1) := by decide +kernel
theorem dX12_tellsNow_47 : decode cX12_tellsNow 47 = .ok (.istore 4, 2) := by decide +kernel
theorem dX12_tellsNow_49 : decode cX12_tellsNow 49 = .ok (.aload_n 0, 1) := by decide +kernel
theorem dX12_tellsNow_50 : decode cX12_tellsNow 50 = .ok (.getfield 65, 3) := by decide +kernel
theorem dX12_tellsNow_53 : decode cX12_tellsNow 53 = .ok (.iconst 3, 1) := by decide +kernel
theorem dX12_tellsNow_54 : decode cX12_tellsNow 54 = .ok (.iload_n 3, 1) := by decide +kernel
theorem dX12_tellsNow_55 : decode cX12_tellsNow 55 = .ok (.imul, 1) := by decide +kernel
theorem dX12_tellsNow_56 : decode cX12_tellsNow 56 = .ok (.iconst 2, 1) := by decide +kernel
theorem dX12_tellsNow_57 : decode cX12_tellsNow 57 = .ok (.iadd, 1) := by decide +kernel
theorem dX12_tellsNow_58 : decode cX12_tellsNow 58 = .ok (.iaload, 1) := by decide +kernel
theorem dX12_tellsNow_59 : decode cX12_tellsNow 59 = .ok (.istore 5, 2) := by decide +kernel
theorem dX12_tellsNow_61 : decode cX12_tellsNow 61 = .ok (.aload_n 0, 1) := by decide +kernel
theorem dX12_tellsNow_62 : decode cX12_tellsNow 62 = .ok (.aload_n 0, 1) := by decide +kernel
theorem dX12_tellsNow_63 : decode cX12_tellsNow 63 = .ok (.getfield 65, 3) := by decide +kernel
theorem dX12_tellsNow_66 : decode cX12_tellsNow 66 = .ok (.iconst 3, 1) := by decide +kernel
theorem dX12_tellsNow_67 : decode cX12_tellsNow 67 = .ok (.iload_n 3, 1) := by decide +kernel
theorem dX12_tellsNow_68 : decode cX12_tellsNow 68 = .ok (.imul, 1) := by decide +kernel
theorem dX12_tellsNow_69 : decode cX12_tellsNow 69 = .ok (.iaload, 1) := by decide +kernel
theorem dX12_tellsNow_70 : decode cX12_tellsNow 70 = .ok (.iload 4, 2) := by decide +kernel
theorem dX12_tellsNow_72 : decode cX12_tellsNow 72 = .ok (.iload 5, 2) := by decide +kernel
theorem dX12_tellsNow_74 : decode cX12_tellsNow 74 = .ok (.invokevirtual 354, 3) := by decide +kernel
theorem dX12_tellsNow_77 : decode cX12_tellsNow 77 = .ok (.istore 6, 2) := by decide +kernel
theorem dX12_tellsNow_79 : decode cX12_tellsNow 79 = .ok (.iload 6, 2) := by decide +kernel
theorem dX12_tellsNow_81 : decode cX12_tellsNow 81 = .ok (.iconst (-1), 1) := by decide +kernel
theorem dX12_tellsNow_82 : decode cX12_tellsNow 82 = .ok (.if_icmp .ne 11, 3) := by decide +kernel
theorem dX12_tellsNow_85 : decode cX12_tellsNow 85 = .ok (.aload_n 0, 1) := by decide +kernel
theorem dX12_tellsNow_86 : decode cX12_tellsNow 86 = .ok (.iload_n 3, 1) := by decide +kernel
theorem dX12_tellsNow_87 : decode cX12_tellsNow 87 = .ok (.invokevirtual 357, 3) := by decide +kernel
theorem dX12_tellsNow_90 : decode cX12_tellsNow 90 = .ok (.goto 56, 3) := by decide +kernel
theorem dX12_tellsNow_93 : decode cX12_tellsNow 93 = .ok (.iload 6, 2) := by decide +kernel
theorem dX12_tellsNow_95 : decode cX12_tellsNow 95 = .ok (.iconst 2, 1) := by decide +kernel
theorem dX12_tellsNow_96 : decode cX12_tellsNow 96 = .ok (.if_icmp .eq 24, 3) := by decide +kernel
theorem dX12_tellsNow_99 : decode cX12_tellsNow 99 = .ok (.iload 6, 2) := by decide +kernel
theorem dX12_tellsNow_101 : decode cX12_tellsNow 101 = .ok (.iconst 3, 1) := by decide +kernel
theorem dX12_tellsNow_102 : decode cX12_tellsNow 102 = .ok (.if_icmp .eq 18, 3) := by decide +kernel
theorem dX12_tellsNow_105 : decode cX12_tellsNow 105 = .ok (.iload 6, 2) := by decide +kernel
theorem dX12_tellsNow_107 : decode cX12_tellsNow 107 = .ok (.ifCond .ne 17, 3) := by decide +kernel
theorem dX12_tellsNow_110 : decode cX12_tellsNow 110 = .ok (.aload_n 0, 1) := by decide +kernel
theorem dX12_tellsNow_111 : decode cX12_tellsNow 111 = .ok (.iload 4, 2) := by decide +kernel
theorem dX12_tellsNow_113 : decode cX12_tellsNow 113 = .ok (.invokevirtual 330, 3) := by decide +kernel
theorem dX12_tellsNow_116 : decode cX12_tellsNow 116 = .ok (.iconst (-1), 1) := by decide +kernel
theorem dX12_tellsNow_117 : decode cX12_tellsNow 117 = .ok (.if_icmp .eq 7, 3) := by decide +kernel
theorem dX12_tellsNow_120 : decode cX12_tellsNow 120 = .ok (.iconst 1, 1) := by decide +kernel
theorem dX12_tellsNow_121 : decode cX12_tellsNow 121 = .ok (.goto 4, 3) := by decide +kernel
theorem dX12_tellsNow_124 : decode cX12_tellsNow 124 = .ok (.iconst 0, 1) := by decide +kernel
theorem dX12_tellsNow_125 : decode cX12_tellsNow 125 = .ok (.istore 7, 2) := by decide +kernel
theorem dX12_tellsNow_127 : decode cX12_tellsNow 127 = .ok (.aload_n 0, 1) := by decide +kernel
theorem dX12_tellsNow_128 : decode cX12_tellsNow 128 = .ok (.iload_n 2, 1) := by decide +kernel
theorem dX12_tellsNow_129 : decode cX12_tellsNow 129 = .ok (.iload 7, 2) := by decide +kernel
theorem dX12_tellsNow_131 : decode cX12_tellsNow 131 = .ok (.ifCond .eq 8, 3) := by decide +kernel
theorem dX12_tellsNow_134 : decode cX12_tellsNow 134 = .ok (.iload 5, 2) := by decide +kernel
theorem dX12_tellsNow_136 : decode cX12_tellsNow 136 = .ok (.goto 5, 3) := by decide +kernel
theorem dX12_tellsNow_139 : decode cX12_tellsNow 139 = .ok (.iload 4, 2) := by decide +kernel
theorem dX12_tellsNow_141 : decode cX12_tellsNow 141 = .ok (.iload 6, 2) := by decide +kernel
theorem dX12_tellsNow_143 : decode cX12_tellsNow 143 = .ok (.invokevirtual 360, 3) := by decide +kernel
theorem dX12_tellsNow_146 : decode cX12_tellsNow 146 = .ok (.iinc 2 1, 3) := by decide +kernel
theorem dX12_tellsNow_149 : decode cX12_tellsNow 149 = .ok (.goto (-137), 3) := by decide +kernel
theorem dX12_tellsNow_152 : decode cX12_tellsNow 152 = .ok (.aload_n 0, 1) := by decide +kernel
theorem dX12_tellsNow_153 : decode cX12_tellsNow 153 = .ok (.getfield 327, 3) := by decide +kernel
theorem dX12_tellsNow_156 : decode cX12_tellsNow 156 = .ok (.iconst (-1), 1) := by decide +kernel
theorem dX12_tellsNow_157 : decode cX12_tellsNow 157 = .ok (.if_icmp .ne 7, 3) := by decide +kernel
theorem dX12_tellsNow_160 : decode cX12_tellsNow 160 = .ok (.iconst 1, 1) := by decide +kernel
theorem dX12_tellsNow_161 : decode cX12_tellsNow 161 = .ok (.goto 4, 3) := by decide +kernel
theorem dX12_tellsNow_164 : decode cX12_tellsNow 164 = .ok (.iconst 0, 1) := by decide +kernel
theorem dX12_tellsNow_165 : decode cX12_tellsNow 165 = .ok (.ireturn, 1) := by decide +kernel
theorem dX12_tellable_0 : decode cX12_tellable 0 = .ok (.iconst 0, 1) := by decide +kernel
theorem dX12_tellable_1 : decode cX12_tellable 1 = .ok (.istore_n 1, 1) := by decide +kernel
theorem dX12_tellable_2 : decode cX12_tellable 2 = .ok (.iconst 0, 1) := by decide +kernel
theorem dX12_tellable_3 : decode cX12_tellable 3 = .ok (.istore_n 2, 1) := by decide +kernel
theorem dX12_tellable_4 : decode cX12_tellable 4 = .ok (.iload_n 2, 1) := by decide +kernel
theorem dX12_tellable_5 : decode cX12_tellable 5 = .ok (.aload_n 0, 1) := by decide +kernel
theorem dX12_tellable_6 : decode cX12_tellable 6 = .ok (.getfield 275, 3) := by decide +kernel
theorem dX12_tellable_9 : decode cX12_tellable 9 = .ok (.if_icmp .ge 27, 3) := by decide +kernel
theorem dX12_tellable_12 : decode cX12_tellable 12 = .ok (.iload_n 1, 1) := by decide +kernel
theorem dX12_tellable_13 : decode cX12_tellable 13 = .ok (.aload_n 0, 1) := by decide +kernel
theorem dX12_tellable_14 : decode cX12_tellable 14 = .ok (.iload_n 2, 1) := by decide +kernel
theorem dX12_tellable_15 : decode cX12_tellable 15 = .ok (.invokevirtual 364, 3) := by decide +kernel
theorem dX12_tellable_18 : decode cX12_tellable 18 = .ok (.ifCond .eq 9, 3) := by decide +kernel
theorem dX12_tellable_21 : decode cX12_tellable 21 = .ok (.iconst 1, 1) := by decide +kernel
theorem dX12_tellable_22 : decode cX12_tellable 22 = .ok (.iload_n 2, 1) := by decide +kernel
theorem dX12_tellable_23 : decode cX12_tellable 23 = .ok (.ishl, 1) := by decide +kernel
theorem dX12_tellable_24 : decode cX12_tellable 24 = .ok (.goto 4, 3) := by decide +kernel
theorem dX12_tellable_27 : decode cX12_tellable 27 = .ok (.iconst 0, 1) := by decide +kernel
theorem dX12_tellable_28 : decode cX12_tellable 28 = .ok (.ior, 1) := by decide +kernel
theorem dX12_tellable_29 : decode cX12_tellable 29 = .ok (.istore_n 1, 1) := by decide +kernel
theorem dX12_tellable_30 : decode cX12_tellable 30 = .ok (.iinc 2 1, 3) := by decide +kernel
theorem dX12_tellable_33 : decode cX12_tellable 33 = .ok (.goto (-29), 3) := by decide +kernel
theorem dX12_tellable_36 : decode cX12_tellable 36 = .ok (.iload_n 1, 1) := by decide +kernel
theorem dX12_tellable_37 : decode cX12_tellable 37 = .ok (.ireturn, 1) := by decide +kernel
theorem dX12_tellableMany_0 : decode cX12_tellableMany 0 = .ok (.aload_n 0, 1) := by decide +kernel
theorem dX12_tellableMany_1 : decode cX12_tellableMany 1 = .ok (.invokevirtual 367, 3) := by decide +kernel
theorem dX12_tellableMany_4 : decode cX12_tellableMany 4 = .ok (.invokestatic 370, 3) := by decide +kernel
theorem dX12_tellableMany_7 : decode cX12_tellableMany 7 = .ok (.ireturn, 1) := by decide +kernel
theorem dX12_whyFill_0 : decode cX12_whyFill 0 = .ok (.aload_n 0, 1) := by decide +kernel
theorem dX12_whyFill_1 : decode cX12_whyFill 1 = .ok (.iload_n 1, 1) := by decide +kernel
theorem dX12_whyFill_2 : decode cX12_whyFill 2 = .ok (.invokevirtual 373, 3) := by decide +kernel
theorem dX12_whyFill_5 : decode cX12_whyFill 5 = .ok (.ifCond .eq 11, 3) := by decide +kernel
theorem dX12_whyFill_8 : decode cX12_whyFill 8 = .ok (.aload_n 0, 1) := by decide +kernel
theorem dX12_whyFill_9 : decode cX12_whyFill 9 = .ok (.iload_n 2, 1) := by decide +kernel
theorem dX12_whyFill_10 : decode cX12_whyFill 10 = .ok (.invokevirtual 376, 3) := by decide +kernel
theorem dX12_whyFill_13 : decode cX12_whyFill 13 = .ok (.ifCond .ne 5, 3) := by decide +kernel
theorem dX12_whyFill_16 : decode cX12_whyFill 16 = .ok (.iconst 0, 1) := by decide +kernel
theorem dX12_whyFill_17 : decode cX12_whyFill 17 = .ok (.ireturn, 1) := by decide +kernel
theorem dX12_whyFill_18 : decode cX12_whyFill 18 = .ok (.iload_n 3, 1) := by decide +kernel
theorem dX12_whyFill_19 : decode cX12_whyFill 19 = .ok (.iconst 0, 1) := by decide +kernel
theorem dX12_whyFill_20 : decode cX12_whyFill 20 = .ok (.bipush 99, 2) := by decide +kernel
theorem dX12_whyFill_22 : decode cX12_whyFill 22 = .ok (.invokestatic 100, 3) := by decide +kernel
theorem dX12_whyFill_25 : decode cX12_whyFill 25 = .ok (.ifCond .ne 7, 3) := by decide +kernel
theorem dX12_whyFill_28 : decode cX12_whyFill 28 = .ok (.iconst 1, 1) := by decide +kernel
theorem dX12_whyFill_29 : decode cX12_whyFill 29 = .ok (.goto 26, 3) := by decide +kernel
theorem dX12_whyFill_32 : decode cX12_whyFill 32 = .ok (.aload_n 0, 1) := by decide +kernel
theorem dX12_whyFill_33 : decode cX12_whyFill 33 = .ok (.iload_n 1, 1) := by decide +kernel
theorem dX12_whyFill_34 : decode cX12_whyFill 34 = .ok (.invokevirtual 330, 3) := by decide +kernel
theorem dX12_whyFill_37 : decode cX12_whyFill 37 = .ok (.iload_n 2, 1) := by decide +kernel
theorem dX12_whyFill_38 : decode cX12_whyFill 38 = .ok (.if_icmp .ne 16, 3) := by decide +kernel
theorem dX12_whyFill_41 : decode cX12_whyFill 41 = .ok (.aload_n 0, 1) := by decide +kernel
theorem dX12_whyFill_42 : decode cX12_whyFill 42 = .ok (.iload_n 1, 1) := by decide +kernel
theorem dX12_whyFill_43 : decode cX12_whyFill 43 = .ok (.invokevirtual 278, 3) := by decide +kernel
theorem dX12_whyFill_46 : decode cX12_whyFill 46 = .ok (.iload_n 3, 1) := by decide +kernel
theorem dX12_whyFill_47 : decode cX12_whyFill 47 = .ok (.if_icmp .ne 7, 3) := by decide +kernel
theorem dX12_whyFill_50 : decode cX12_whyFill 50 = .ok (.iconst 2, 1) := by decide +kernel
theorem dX12_whyFill_51 : decode cX12_whyFill 51 = .ok (.goto 4, 3) := by decide +kernel
theorem dX12_whyFill_54 : decode cX12_whyFill 54 = .ok (.iconst (-1), 1) := by decide +kernel
theorem dX12_whyFill_55 : decode cX12_whyFill 55 = .ok (.ireturn, 1) := by decide +kernel
theorem dX12_isForm_0 : decode cX12_isForm 0 = .ok (.iload_n 0, 1) := by decide +kernel
theorem dX12_isForm_1 : decode cX12_isForm 1 = .ok (.iconst 0, 1) := by decide +kernel
theorem dX12_isForm_2 : decode cX12_isForm 2 = .ok (.iconst 3, 1) := by decide +kernel
theorem dX12_isForm_3 : decode cX12_isForm 3 = .ok (.invokestatic 100, 3) := by decide +kernel
theorem dX12_isForm_6 : decode cX12_isForm 6 = .ok (.ifCond .eq 16, 3) := by decide +kernel
theorem dX12_isForm_9 : decode cX12_isForm 9 = .ok (.iload_n 1, 1) := by decide +kernel
theorem dX12_isForm_10 : decode cX12_isForm 10 = .ok (.iconst 0, 1) := by decide +kernel
theorem dX12_isForm_11 : decode cX12_isForm 11 = .ok (.iconst 1, 1) := by decide +kernel
theorem dX12_isForm_12 : decode cX12_isForm 12 = .ok (.invokestatic 100, 3) := by decide +kernel
theorem dX12_isForm_15 : decode cX12_isForm 15 = .ok (.ifCond .eq 7, 3) := by decide +kernel
theorem dX12_isForm_18 : decode cX12_isForm 18 = .ok (.iconst 1, 1) := by decide +kernel
theorem dX12_isForm_19 : decode cX12_isForm 19 = .ok (.goto 4, 3) := by decide +kernel
theorem dX12_isForm_22 : decode cX12_isForm 22 = .ok (.iconst 0, 1) := by decide +kernel
theorem dX12_isForm_23 : decode cX12_isForm 23 = .ok (.ireturn, 1) := by decide +kernel
theorem dX12_whyNot_0 : decode cX12_whyNot 0 = .ok (.iload_n 1, 1) := by decide +kernel
theorem dX12_whyNot_1 : decode cX12_whyNot 1 = .ok (.tableswitch 161 0 3 #[31, 40, 67, 109], 31) := by decide +kernel
theorem dX12_whyNot_32 : decode cX12_whyNot 32 = .ok (.aload_n 0, 1) := by decide +kernel
theorem dX12_whyNot_33 : decode cX12_whyNot 33 = .ok (.iload_n 2, 1) := by decide +kernel
theorem dX12_whyNot_34 : decode cX12_whyNot 34 = .ok (.iload_n 3, 1) := by decide +kernel
theorem dX12_whyNot_35 : decode cX12_whyNot 35 = .ok (.iload 4, 2) := by decide +kernel
theorem dX12_whyNot_37 : decode cX12_whyNot 37 = .ok (.invokevirtual 379, 3) := by decide +kernel
theorem dX12_whyNot_40 : decode cX12_whyNot 40 = .ok (.ireturn, 1) := by decide +kernel
theorem dX12_whyNot_41 : decode cX12_whyNot 41 = .ok (.aload_n 0, 1) := by decide +kernel
theorem dX12_whyNot_42 : decode cX12_whyNot 42 = .ok (.iload_n 2, 1) := by decide +kernel
theorem dX12_whyNot_43 : decode cX12_whyNot 43 = .ok (.invokevirtual 373, 3) := by decide +kernel
theorem dX12_whyNot_46 : decode cX12_whyNot 46 = .ok (.ifCond .ne 7, 3) := by decide +kernel
theorem dX12_whyNot_49 : decode cX12_whyNot 49 = .ok (.iconst 0, 1) := by decide +kernel
theorem dX12_whyNot_50 : decode cX12_whyNot 50 = .ok (.goto 17, 3) := by decide +kernel
theorem dX12_whyNot_53 : decode cX12_whyNot 53 = .ok (.aload_n 0, 1) := by decide +kernel
theorem dX12_whyNot_54 : decode cX12_whyNot 54 = .ok (.iload_n 2, 1) := by decide +kernel
theorem dX12_whyNot_55 : decode cX12_whyNot 55 = .ok (.invokevirtual 330, 3) := by decide +kernel
theorem dX12_whyNot_58 : decode cX12_whyNot 58 = .ok (.iconst (-1), 1) := by decide +kernel
theorem dX12_whyNot_59 : decode cX12_whyNot 59 = .ok (.if_icmp .ne 7, 3) := by decide +kernel
theorem dX12_whyNot_62 : decode cX12_whyNot 62 = .ok (.iconst 2, 1) := by decide +kernel
theorem dX12_whyNot_63 : decode cX12_whyNot 63 = .ok (.goto 4, 3) := by decide +kernel
theorem dX12_whyNot_66 : decode cX12_whyNot 66 = .ok (.iconst (-1), 1) := by decide +kernel
theorem dX12_whyNot_67 : decode cX12_whyNot 67 = .ok (.ireturn, 1) := by decide +kernel
theorem dX12_whyNot_68 : decode cX12_whyNot 68 = .ok (.aload_n 0, 1) := by decide +kernel
theorem dX12_whyNot_69 : decode cX12_whyNot 69 = .ok (.invokevirtual 272, 3) := by decide +kernel
theorem dX12_whyNot_72 : decode cX12_whyNot 72 = .ok (.ifCond .ne 7, 3) := by decide +kernel
theorem dX12_whyNot_75 : decode cX12_whyNot 75 = .ok (.iconst 0, 1) := by decide +kernel
theorem dX12_whyNot_76 : decode cX12_whyNot 76 = .ok (.goto 33, 3) := by decide +kernel
theorem dX12_whyNot_79 : decode cX12_whyNot 79 = .ok (.iload_n 2, 1) := by decide +kernel
theorem dX12_whyNot_80 : decode cX12_whyNot 80 = .ok (.iconst 0, 1) := by decide +kernel
theorem dX12_whyNot_81 : decode cX12_whyNot 81 = .ok (.iconst 1, 1) := by decide +kernel
theorem dX12_whyNot_82 : decode cX12_whyNot 82 = .ok (.invokestatic 100, 3) := by decide +kernel
theorem dX12_whyNot_85 : decode cX12_whyNot 85 = .ok (.ifCond .ne 7, 3) := by decide +kernel
theorem dX12_whyNot_88 : decode cX12_whyNot 88 = .ok (.iconst 1, 1) := by decide +kernel
theorem dX12_whyNot_89 : decode cX12_whyNot 89 = .ok (.goto 20, 3) := by decide +kernel
theorem dX12_whyNot_92 : decode cX12_whyNot 92 = .ok (.aload_n 0, 1) := by decide +kernel
theorem dX12_whyNot_93 : decode cX12_whyNot 93 = .ok (.getfield 47, 3) := by decide +kernel
theorem dX12_whyNot_96 : decode cX12_whyNot 96 = .ok (.iconst 0, 1) := by decide +kernel
theorem dX12_whyNot_97 : decode cX12_whyNot 97 = .ok (.laload, 1) := by decide +kernel
theorem dX12_whyNot_98 : decode cX12_whyNot 98 = .ok (.iload_n 2, 1) := by decide +kernel
theorem dX12_whyNot_99 : decode cX12_whyNot 99 = .ok (.i2l, 1) := by decide +kernel
theorem dX12_whyNot_100 : decode cX12_whyNot 100 = .ok (.lcmp, 1) := by decide +kernel
theorem dX12_whyNot_101 : decode cX12_whyNot 101 = .ok (.ifCond .ne 7, 3) := by decide +kernel
theorem dX12_whyNot_104 : decode cX12_whyNot 104 = .ok (.iconst 2, 1) := by decide +kernel
theorem dX12_whyNot_105 : decode cX12_whyNot 105 = .ok (.goto 4, 3) := by decide +kernel
theorem dX12_whyNot_108 : decode cX12_whyNot 108 = .ok (.iconst (-1), 1) := by decide +kernel
theorem dX12_whyNot_109 : decode cX12_whyNot 109 = .ok (.ireturn, 1) := by decide +kernel
theorem dX12_whyNot_110 : decode cX12_whyNot 110 = .ok (.aload_n 0, 1) := by decide +kernel
theorem dX12_whyNot_111 : decode cX12_whyNot 111 = .ok (.iload_n 2, 1) := by decide +kernel
theorem dX12_whyNot_112 : decode cX12_whyNot 112 = .ok (.invokevirtual 376, 3) := by decide +kernel
theorem dX12_whyNot_115 : decode cX12_whyNot 115 = .ok (.ifCond .ne 7, 3) := by decide +kernel
theorem dX12_whyNot_118 : decode cX12_whyNot 118 = .ok (.iconst 0, 1) := by decide +kernel
theorem dX12_whyNot_119 : decode cX12_whyNot 119 = .ok (.goto 42, 3) := by decide +kernel
theorem dX12_whyNot_122 : decode cX12_whyNot 122 = .ok (.iload_n 3, 1) := by decide +kernel
theorem dX12_whyNot_123 : decode cX12_whyNot 123 = .ok (.iload 4, 2) := by decide +kernel
theorem dX12_whyNot_125 : decode cX12_whyNot 125 = .ok (.invokestatic 382, 3) := by decide +kernel
theorem dX12_whyNot_128 : decode cX12_whyNot 128 = .ok (.ifCond .eq 10, 3) := by decide +kernel
theorem dX12_whyNot_131 : decode cX12_whyNot 131 = .ok (.lload 5, 2) := by decide +kernel
theorem dX12_whyNot_133 : decode cX12_whyNot 133 = .ok (.lconst 0, 1) := by decide +kernel
theorem dX12_whyNot_134 : decode cX12_whyNot 134 = .ok (.lcmp, 1) := by decide +kernel
theorem dX12_whyNot_135 : decode cX12_whyNot 135 = .ok (.ifCond .ne 7, 3) := by decide +kernel
theorem dX12_whyNot_138 : decode cX12_whyNot 138 = .ok (.iconst 1, 1) := by decide +kernel
theorem dX12_whyNot_139 : decode cX12_whyNot 139 = .ok (.goto 22, 3) := by decide +kernel
theorem dX12_whyNot_142 : decode cX12_whyNot 142 = .ok (.aload_n 0, 1) := by decide +kernel
theorem dX12_whyNot_143 : decode cX12_whyNot 143 = .ok (.iload_n 2, 1) := by decide +kernel
theorem dX12_whyNot_144 : decode cX12_whyNot 144 = .ok (.iload_n 3, 1) := by decide +kernel
theorem dX12_whyNot_145 : decode cX12_whyNot 145 = .ok (.iload 4, 2) := by decide +kernel
theorem dX12_whyNot_147 : decode cX12_whyNot 147 = .ok (.invokevirtual 296, 3) := by decide +kernel
theorem dX12_whyNot_150 : decode cX12_whyNot 150 = .ok (.lload 5, 2) := by decide +kernel
theorem dX12_whyNot_152 : decode cX12_whyNot 152 = .ok (.lcmp, 1) := by decide +kernel
theorem dX12_whyNot_153 : decode cX12_whyNot 153 = .ok (.ifCond .ne 7, 3) := by decide +kernel
theorem dX12_whyNot_156 : decode cX12_whyNot 156 = .ok (.iconst 2, 1) := by decide +kernel
theorem dX12_whyNot_157 : decode cX12_whyNot 157 = .ok (.goto 4, 3) := by decide +kernel
theorem dX12_whyNot_160 : decode cX12_whyNot 160 = .ok (.iconst (-1), 1) := by decide +kernel
theorem dX12_whyNot_161 : decode cX12_whyNot 161 = .ok (.ireturn, 1) := by decide +kernel
theorem dX12_whyNot_162 : decode cX12_whyNot 162 = .ok (.aload_n 0, 1) := by decide +kernel
theorem dX12_whyNot_163 : decode cX12_whyNot 163 = .ok (.iload_n 2, 1) := by decide +kernel
theorem dX12_whyNot_164 : decode cX12_whyNot 164 = .ok (.invokevirtual 376, 3) := by decide +kernel
theorem dX12_whyNot_167 : decode cX12_whyNot 167 = .ok (.ifCond .ne 7, 3) := by decide +kernel
theorem dX12_whyNot_170 : decode cX12_whyNot 170 = .ok (.iconst 0, 1) := by decide +kernel
theorem dX12_whyNot_171 : decode cX12_whyNot 171 = .ok (.goto 34, 3) := by decide +kernel
theorem dX12_whyNot_174 : decode cX12_whyNot 174 = .ok (.iload_n 3, 1) := by decide +kernel
theorem dX12_whyNot_175 : decode cX12_whyNot 175 = .ok (.iload 4, 2) := by decide +kernel
theorem dX12_whyNot_177 : decode cX12_whyNot 177 = .ok (.invokestatic 382, 3) := by decide +kernel
theorem dX12_whyNot_180 : decode cX12_whyNot 180 = .ok (.ifCond .ne 7, 3) := by decide +kernel
theorem dX12_whyNot_183 : decode cX12_whyNot 183 = .ok (.iconst 1, 1) := by decide +kernel
theorem dX12_whyNot_184 : decode cX12_whyNot 184 = .ok (.goto 21, 3) := by decide +kernel
theorem dX12_whyNot_187 : decode cX12_whyNot 187 = .ok (.aload_n 0, 1) := by decide +kernel
theorem dX12_whyNot_188 : decode cX12_whyNot 188 = .ok (.iload_n 2, 1) := by decide +kernel
theorem dX12_whyNot_189 : decode cX12_whyNot 189 = .ok (.iload_n 3, 1) := by decide +kernel
theorem dX12_whyNot_190 : decode cX12_whyNot 190 = .ok (.iload 4, 2) := by decide +kernel
theorem dX12_whyNot_192 : decode cX12_whyNot 192 = .ok (.invokevirtual 296, 3) := by decide +kernel
theorem dX12_whyNot_195 : decode cX12_whyNot 195 = .ok (.lconst 0, 1) := by decide +kernel
theorem dX12_whyNot_196 : decode cX12_whyNot 196 = .ok (.lcmp, 1) := by decide +kernel
theorem dX12_whyNot_197 : decode cX12_whyNot 197 = .ok (.ifCond .ne 7, 3) := by decide +kernel
theorem dX12_whyNot_200 : decode cX12_whyNot 200 = .ok (.iconst 2, 1) := by decide +kernel
theorem dX12_whyNot_201 : decode cX12_whyNot 201 = .ok (.goto 4, 3) := by decide +kernel
theorem dX12_whyNot_204 : decode cX12_whyNot 204 = .ok (.iconst (-1), 1) := by decide +kernel
theorem dX12_whyNot_205 : decode cX12_whyNot 205 = .ok (.ireturn, 1) := by decide +kernel
theorem dX12_formsOf_0 : decode cX12_formsOf 0 = .ok (.iconst 0, 1) := by decide +kernel
theorem dX12_formsOf_1 : decode cX12_formsOf 1 = .ok (.istore_n 2, 1) := by decide +kernel
theorem dX12_formsOf_2 : decode cX12_formsOf 2 = .ok (.iconst 0, 1) := by decide +kernel
theorem dX12_formsOf_3 : decode cX12_formsOf 3 = .ok (.istore_n 3, 1) := by decide +kernel
theorem dX12_formsOf_4 : decode cX12_formsOf 4 = .ok (.iload_n 3, 1) := by decide +kernel
theorem dX12_formsOf_5 : decode cX12_formsOf 5 = .ok (.bipush 8, 2) := by decide +kernel
theorem dX12_formsOf_7 : decode cX12_formsOf 7 = .ok (.if_icmp .ge 36, 3) := by decide +kernel
theorem dX12_formsOf_10 : decode cX12_formsOf 10 = .ok (.iload_n 2, 1) := by decide +kernel
theorem dX12_formsOf_11 : decode cX12_formsOf 11 = .ok (.aload_n 0, 1) := by decide +kernel
theorem dX12_formsOf_12 : decode cX12_formsOf 12 = .ok (.getfield 47, 3) := by decide +kernel
theorem dX12_formsOf_15 : decode cX12_formsOf 15 = .ok (.bipush 7, 2) := by decide +kernel
theorem dX12_formsOf_17 : decode cX12_formsOf 17 = .ok (.bipush 8, 2) := by decide +kernel
theorem dX12_formsOf_19 : decode cX12_formsOf 19 = .ok (.iload_n 1, 1) := by decide +kernel
theorem dX12_formsOf_20 : decode cX12_formsOf 20 = .ok (.imul, 1) := by decide +kernel
theorem dX12_formsOf_21 : decode cX12_formsOf 21 = .ok (.iadd, 1) := by decide +kernel
theorem dX12_formsOf_22 : decode cX12_formsOf 22 = .ok (.iload_n 3, 1) := by decide +kernel
theorem dX12_formsOf_23 : decode cX12_formsOf 23 = .ok (.iadd, 1) := by decide +kernel
theorem dX12_formsOf_24 : decode cX12_formsOf 24 = .ok (.laload, 1) := by decide +kernel
theorem dX12_formsOf_25 : decode cX12_formsOf 25 = .ok (.lconst 0, 1) := by decide +kernel
theorem dX12_formsOf_26 : decode cX12_formsOf 26 = .ok (.lcmp, 1) := by decide +kernel
theorem dX12_formsOf_27 : decode cX12_formsOf 27 = .ok (.ifCond .eq 7, 3) := by decide +kernel
theorem dX12_formsOf_30 : decode cX12_formsOf 30 = .ok (.iconst 1, 1) := by decide +kernel
theorem dX12_formsOf_31 : decode cX12_formsOf 31 = .ok (.goto 4, 3) := by decide +kernel
theorem dX12_formsOf_34 : decode cX12_formsOf 34 = .ok (.iconst 0, 1) := by decide +kernel
theorem dX12_formsOf_35 : decode cX12_formsOf 35 = .ok (.iadd, 1) := by decide +kernel
theorem dX12_formsOf_36 : decode cX12_formsOf 36 = .ok (.istore_n 2, 1) := by decide +kernel
theorem dX12_formsOf_37 : decode cX12_formsOf 37 = .ok (.iinc 3 1, 3) := by decide +kernel
theorem dX12_formsOf_40 : decode cX12_formsOf 40 = .ok (.goto (-36), 3) := by decide +kernel
theorem dX12_formsOf_43 : decode cX12_formsOf 43 = .ok (.iload_n 2, 1) := by decide +kernel
theorem dX12_formsOf_44 : decode cX12_formsOf 44 = .ok (.ireturn, 1) := by decide +kernel
theorem dX12_fillsNow_0 : decode cX12_fillsNow 0 = .ok (.aload_n 0, 1) := by decide +kernel
theorem dX12_fillsNow_1 : decode cX12_fillsNow 1 = .ok (.getfield 47, 3) := by decide +kernel
theorem dX12_fillsNow_4 : decode cX12_fillsNow 4 = .ok (.iconst 1, 1) := by decide +kernel
theorem dX12_fillsNow_5 : decode cX12_fillsNow 5 = .ok (.iconst 2, 1) := by decide +kernel
theorem dX12_fillsNow_6 : decode cX12_fillsNow 6 = .ok (.iload_n 1, 1) := by decide +kernel
theorem dX12_fillsNow_7 : decode cX12_fillsNow 7 = .ok (.imul, 1) := by decide +kernel
theorem dX12_fillsNow_8 : decode cX12_fillsNow 8 = .ok (.iadd, 1) := by decide +kernel
theorem dX12_fillsNow_9 : decode cX12_fillsNow 9 = .ok (.iload_n 2, 1) := by decide +kernel
theorem dX12_fillsNow_10 : decode cX12_fillsNow 10 = .ok (.i2l, 1) := by decide +kernel
theorem dX12_fillsNow_11 : decode cX12_fillsNow 11 = .ok (.lastore, 1) := by decide +kernel
theorem dX12_fillsNow_12 : decode cX12_fillsNow 12 = .ok (.aload_n 0, 1) := by decide +kernel
theorem dX12_fillsNow_13 : decode cX12_fillsNow 13 = .ok (.getfield 47, 3) := by decide +kernel
theorem dX12_fillsNow_16 : decode cX12_fillsNow 16 = .ok (.iconst 1, 1) := by decide +kernel
theorem dX12_fillsNow_17 : decode cX12_fillsNow 17 = .ok (.iconst 2, 1) := by decide +kernel
theorem dX12_fillsNow_18 : decode cX12_fillsNow 18 = .ok (.iload_n 1, 1) := by decide +kernel
theorem dX12_fillsNow_19 : decode cX12_fillsNow 19 = .ok (.imul, 1) := by decide +kernel
theorem dX12_fillsNow_20 : decode cX12_fillsNow 20 = .ok (.iadd, 1) := by decide +kernel
theorem dX12_fillsNow_21 : decode cX12_fillsNow 21 = .ok (.iconst 1, 1) := by decide +kernel
theorem dX12_fillsNow_22 : decode cX12_fillsNow 22 = .ok (.iadd, 1) := by decide +kernel
theorem dX12_fillsNow_23 : decode cX12_fillsNow 23 = .ok (.iload_n 3, 1) := by decide +kernel
theorem dX12_fillsNow_24 : decode cX12_fillsNow 24 = .ok (.i2l, 1) := by decide +kernel
theorem dX12_fillsNow_25 : decode cX12_fillsNow 25 = .ok (.lastore, 1) := by decide +kernel
theorem dX12_fillsNow_26 : decode cX12_fillsNow 26 = .ok (.aload_n 0, 1) := by decide +kernel
theorem dX12_fillsNow_27 : decode cX12_fillsNow 27 = .ok (.iload_n 1, 1) := by decide +kernel
theorem dX12_fillsNow_28 : decode cX12_fillsNow 28 = .ok (.invokevirtual 333, 3) := by decide +kernel
theorem dX12_fillsNow_31 : decode cX12_fillsNow 31 = .ok (.ireturn, 1) := by decide +kernel
theorem dX12_emptiesNow_0 : decode cX12_emptiesNow 0 = .ok (.aload_n 0, 1) := by decide +kernel
theorem dX12_emptiesNow_1 : decode cX12_emptiesNow 1 = .ok (.iload_n 1, 1) := by decide +kernel
theorem dX12_emptiesNow_2 : decode cX12_emptiesNow 2 = .ok (.invokevirtual 330, 3) := by decide +kernel
theorem dX12_emptiesNow_5 : decode cX12_emptiesNow 5 = .ok (.istore_n 2, 1) := by decide +kernel
theorem dX12_emptiesNow_6 : decode cX12_emptiesNow 6 = .ok (.aload_n 0, 1) := by decide +kernel
theorem dX12_emptiesNow_7 : decode cX12_emptiesNow 7 = .ok (.getfield 47, 3) := by decide +kernel
theorem dX12_emptiesNow_10 : decode cX12_emptiesNow 10 = .ok (.iconst 1, 1) := by decide +kernel
theorem dX12_emptiesNow_11 : decode cX12_emptiesNow 11 = .ok (.iconst 2, 1) := by decide +kernel
theorem dX12_emptiesNow_12 : decode cX12_emptiesNow 12 = .ok (.iload_n 1, 1) := by decide +kernel
theorem dX12_emptiesNow_13 : decode cX12_emptiesNow 13 = .ok (.imul, 1) := by decide +kernel
theorem dX12_emptiesNow_14 : decode cX12_emptiesNow 14 = .ok (.iadd, 1) := by decide +kernel
theorem dX12_emptiesNow_15 : decode cX12_emptiesNow 15 = .ok (.ldc2_w 281, 3) := by decide +kernel
theorem dX12_emptiesNow_18 : decode cX12_emptiesNow 18 = .ok (.lastore, 1) := by decide +kernel
theorem dX12_emptiesNow_19 : decode cX12_emptiesNow 19 = .ok (.aload_n 0, 1) := by decide +kernel
theorem dX12_emptiesNow_20 : decode cX12_emptiesNow 20 = .ok (.getfield 47, 3) := by decide +kernel
theorem dX12_emptiesNow_23 : decode cX12_emptiesNow 23 = .ok (.iconst 1, 1) := by decide +kernel
theorem dX12_emptiesNow_24 : decode cX12_emptiesNow 24 = .ok (.iconst 2, 1) := by decide +kernel
theorem dX12_emptiesNow_25 : decode cX12_emptiesNow 25 = .ok (.iload_n 1, 1) := by decide +kernel
theorem dX12_emptiesNow_26 : decode cX12_emptiesNow 26 = .ok (.imul, 1) := by decide +kernel
theorem dX12_emptiesNow_27 : decode cX12_emptiesNow 27 = .ok (.iadd, 1) := by decide +kernel
theorem dX12_emptiesNow_28 : decode cX12_emptiesNow 28 = .ok (.iconst 1, 1) := by decide +kernel
theorem dX12_emptiesNow_29 : decode cX12_emptiesNow 29 = .ok (.iadd, 1) := by decide +kernel
theorem dX12_emptiesNow_30 : decode cX12_emptiesNow 30 = .ok (.lconst 0, 1) := by decide +kernel
theorem dX12_emptiesNow_31 : decode cX12_emptiesNow 31 = .ok (.lastore, 1) := by decide +kernel
theorem dX12_emptiesNow_32 : decode cX12_emptiesNow 32 = .ok (.iload_n 2, 1) := by decide +kernel
theorem dX12_emptiesNow_33 : decode cX12_emptiesNow 33 = .ok (.ireturn, 1) := by decide +kernel
theorem dX12_doNow_0 : decode cX12_doNow 0 = .ok (.iload_n 1, 1) := by decide +kernel
theorem dX12_doNow_1 : decode cX12_doNow 1 = .ok (.tableswitch 55 0 2 #[27, 36, 42], 27) := by decide +kernel
theorem dX12_doNow_28 : decode cX12_doNow 28 = .ok (.aload_n 0, 1) := by decide +kernel
theorem dX12_doNow_29 : decode cX12_doNow 29 = .ok (.iload_n 2, 1) := by decide +kernel
theorem dX12_doNow_30 : decode cX12_doNow 30 = .ok (.iload_n 3, 1) := by decide +kernel
theorem dX12_doNow_31 : decode cX12_doNow 31 = .ok (.iload 4, 2) := by decide +kernel
theorem dX12_doNow_33 : decode cX12_doNow 33 = .ok (.invokevirtual 386, 3) := by decide +kernel
theorem dX12_doNow_36 : decode cX12_doNow 36 = .ok (.ireturn, 1) := by decide +kernel
theorem dX12_doNow_37 : decode cX12_doNow 37 = .ok (.aload_n 0, 1) := by decide +kernel
theorem dX12_doNow_38 : decode cX12_doNow 38 = .ok (.iload_n 2, 1) := by decide +kernel
theorem dX12_doNow_39 : decode cX12_doNow 39 = .ok (.invokevirtual 389, 3) := by decide +kernel
theorem dX12_doNow_42 : decode cX12_doNow 42 = .ok (.ireturn, 1) := by decide +kernel
theorem dX12_doNow_43 : decode cX12_doNow 43 = .ok (.aload_n 0, 1) := by decide +kernel
theorem dX12_doNow_44 : decode cX12_doNow 44 = .ok (.getfield 47, 3) := by decide +kernel
theorem dX12_doNow_47 : decode cX12_doNow 47 = .ok (.iconst 0, 1) := by decide +kernel
theorem dX12_doNow_48 : decode cX12_doNow 48 = .ok (.iload_n 2, 1) := by decide +kernel
theorem dX12_doNow_49 : decode cX12_doNow 49 = .ok (.i2l, 1) := by decide +kernel
theorem dX12_doNow_50 : decode cX12_doNow 50 = .ok (.lastore, 1) := by decide +kernel
theorem dX12_doNow_51 : decode cX12_doNow 51 = .ok (.aload_n 0, 1) := by decide +kernel
theorem dX12_doNow_52 : decode cX12_doNow 52 = .ok (.invokevirtual 392, 3) := by decide +kernel
theorem dX12_doNow_55 : decode cX12_doNow 55 = .ok (.ireturn, 1) := by decide +kernel
theorem dX12_doNow_56 : decode cX12_doNow 56 = .ok (.aload_n 0, 1) := by decide +kernel
theorem dX12_doNow_57 : decode cX12_doNow 57 = .ok (.getfield 47, 3) := by decide +kernel
theorem dX12_doNow_60 : decode cX12_doNow 60 = .ok (.bipush 7, 2) := by decide +kernel
theorem dX12_doNow_62 : decode cX12_doNow 62 = .ok (.bipush 8, 2) := by decide +kernel
theorem dX12_doNow_64 : decode cX12_doNow 64 = .ok (.iload_n 2, 1) := by decide +kernel
theorem dX12_doNow_65 : decode cX12_doNow 65 = .ok (.imul, 1) := by decide +kernel
theorem dX12_doNow_66 : decode cX12_doNow 66 = .ok (.iadd, 1) := by decide +kernel
theorem dX12_doNow_67 : decode cX12_doNow 67 = .ok (.iload_n 3, 1) := by decide +kernel
theorem dX12_doNow_68 : decode cX12_doNow 68 = .ok (.iload 4, 2) := by decide +kernel
theorem dX12_doNow_70 : decode cX12_doNow 70 = .ok (.invokestatic 195, 3) := by decide +kernel
theorem dX12_doNow_73 : decode cX12_doNow 73 = .ok (.iadd, 1) := by decide +kernel
theorem dX12_doNow_74 : decode cX12_doNow 74 = .ok (.iload_n 1, 1) := by decide +kernel
theorem dX12_doNow_75 : decode cX12_doNow 75 = .ok (.iconst 3, 1) := by decide +kernel
theorem dX12_doNow_76 : decode cX12_doNow 76 = .ok (.if_icmp .ne 8, 3) := by decide +kernel
theorem dX12_doNow_79 : decode cX12_doNow 79 = .ok (.lload 5, 2) := by decide +kernel
theorem dX12_doNow_81 : decode cX12_doNow 81 = .ok (.goto 4, 3) := by decide +kernel
theorem dX12_doNow_84 : decode cX12_doNow 84 = .ok (.lconst 0, 1) := by decide +kernel
theorem dX12_doNow_85 : decode cX12_doNow 85 = .ok (.lastore, 1) := by decide +kernel
theorem dX12_doNow_86 : decode cX12_doNow 86 = .ok (.aload_n 0, 1) := by decide +kernel
theorem dX12_doNow_87 : decode cX12_doNow 87 = .ok (.iload_n 2, 1) := by decide +kernel
theorem dX12_doNow_88 : decode cX12_doNow 88 = .ok (.invokevirtual 395, 3) := by decide +kernel
theorem dX12_doNow_91 : decode cX12_doNow 91 = .ok (.ireturn, 1) := by decide +kernel
theorem dX12_keep_0 : decode cX12_keep 0 = .ok (.aload_n 0, 1) := by decide +kernel
theorem dX12_keep_1 : decode cX12_keep 1 = .ok (.getfield 283, 3) := by decide +kernel
theorem dX12_keep_4 : decode cX12_keep 4 = .ok (.bipush 40, 2) := by decide +kernel
theorem dX12_keep_6 : decode cX12_keep 6 = .ok (.if_icmp .ne 46, 3) := by decide +kernel
theorem dX12_keep_9 : decode cX12_keep 9 = .ok (.sipush 236, 3) := by decide +kernel
theorem dX12_keep_12 : decode cX12_keep 12 = .ok (.istore_n 1, 1) := by decide +kernel
theorem dX12_keep_13 : decode cX12_keep 13 = .ok (.iload_n 1, 1) := by decide +kernel
theorem dX12_keep_14 : decode cX12_keep 14 = .ok (.sipush 9440, 3) := by decide +kernel
theorem dX12_keep_17 : decode cX12_keep 17 = .ok (.if_icmp .ge 25, 3) := by decide +kernel
theorem dX12_keep_20 : decode cX12_keep 20 = .ok (.aload_n 0, 1) := by decide +kernel
theorem dX12_keep_21 : decode cX12_keep 21 = .ok (.getfield 74, 3) := by decide +kernel
theorem dX12_keep_24 : decode cX12_keep 24 = .ok (.iload_n 1, 1) := by decide +kernel
theorem dX12_keep_25 : decode cX12_keep 25 = .ok (.sipush 236, 3) := by decide +kernel
theorem dX12_keep_28 : decode cX12_keep 28 = .ok (.isub, 1) := by decide +kernel
theorem dX12_keep_29 : decode cX12_keep 29 = .ok (.aload_n 0, 1) := by decide +kernel
theorem dX12_keep_30 : decode cX12_keep 30 = .ok (.getfield 74, 3) := by decide +kernel
theorem dX12_keep_33 : decode cX12_keep 33 = .ok (.iload_n 1, 1) := by decide +kernel
theorem dX12_keep_34 : decode cX12_keep 34 = .ok (.laload, 1) := by decide +kernel
theorem dX12_keep_35 : decode cX12_keep 35 = .ok (.lastore, 1) := by decide +kernel
theorem dX12_keep_36 : decode cX12_keep 36 = .ok (.iinc 1 1, 3) := by decide +kernel
theorem dX12_keep_39 : decode cX12_keep 39 = .ok (.goto (-26), 3) := by decide +kernel
theorem dX12_keep_42 : decode cX12_keep 42 = .ok (.aload_n 0, 1) := by decide +kernel
theorem dX12_keep_43 : decode cX12_keep 43 = .ok (.dup, 1) := by decide +kernel
theorem dX12_keep_44 : decode cX12_keep 44 = .ok (.getfield 283, 3) := by decide +kernel
theorem dX12_keep_47 : decode cX12_keep 47 = .ok (.iconst 1, 1) := by decide +kernel
theorem dX12_keep_48 : decode cX12_keep 48 = .ok (.isub, 1) := by decide +kernel
theorem dX12_keep_49 : decode cX12_keep 49 = .ok (.putfield 283, 3) := by decide +kernel
theorem dX12_keep_52 : decode cX12_keep 52 = .ok (.iconst 0, 1) := by decide +kernel
theorem dX12_keep_53 : decode cX12_keep 53 = .ok (.istore_n 1, 1) := by decide +kernel
theorem dX12_keep_54 : decode cX12_keep 54 = .ok (.iload_n 1, 1) := by decide +kernel
theorem dX12_keep_55 : decode cX12_keep 55 = .ok (.sipush 236, 3) := by decide +kernel
theorem dX12_keep_58 : decode cX12_keep 58 = .ok (.if_icmp .ge 30, 3) := by decide +kernel
theorem dX12_keep_61 : decode cX12_keep 61 = .ok (.aload_n 0, 1) := by decide +kernel
theorem dX12_keep_62 : decode cX12_keep 62 = .ok (.getfield 74, 3) := by decide +kernel
theorem dX12_keep_65 : decode cX12_keep 65 = .ok (.sipush 236, 3) := by decide +kernel
theorem dX12_keep_68 : decode cX12_keep 68 = .ok (.aload_n 0, 1) := by decide +kernel
theorem dX12_keep_69 : decode cX12_keep 69 = .ok (.getfield 283, 3) := by decide +kernel
theorem dX12_keep_72 : decode cX12_keep 72 = .ok (.imul, 1) := by decide +kernel
theorem dX12_keep_73 : decode cX12_keep 73 = .ok (.iload_n 1, 1) := by decide +kernel
theorem dX12_keep_74 : decode cX12_keep 74 = .ok (.iadd, 1) := by decide +kernel
theorem dX12_keep_75 : decode cX12_keep 75 = .ok (.aload_n 0, 1) := by decide +kernel
theorem dX12_keep_76 : decode cX12_keep 76 = .ok (.getfield 47, 3) := by decide +kernel
theorem dX12_keep_79 : decode cX12_keep 79 = .ok (.iload_n 1, 1) := by decide +kernel
theorem dX12_keep_80 : decode cX12_keep 80 = .ok (.laload, 1) := by decide +kernel
theorem dX12_keep_81 : decode cX12_keep 81 = .ok (.lastore, 1) := by decide +kernel
theorem dX12_keep_82 : decode cX12_keep 82 = .ok (.iinc 1 1, 3) := by decide +kernel
theorem dX12_keep_85 : decode cX12_keep 85 = .ok (.goto (-31), 3) := by decide +kernel
theorem dX12_keep_88 : decode cX12_keep 88 = .ok (.aload_n 0, 1) := by decide +kernel
theorem dX12_keep_89 : decode cX12_keep 89 = .ok (.dup, 1) := by decide +kernel
theorem dX12_keep_90 : decode cX12_keep 90 = .ok (.getfield 283, 3) := by decide +kernel
theorem dX12_keep_93 : decode cX12_keep 93 = .ok (.iconst 1, 1) := by decide +kernel
theorem dX12_keep_94 : decode cX12_keep 94 = .ok (.iadd, 1) := by decide +kernel
theorem dX12_keep_95 : decode cX12_keep 95 = .ok (.putfield 283, 3) := by decide +kernel
theorem dX12_keep_98 : decode cX12_keep 98 = .ok (.return_, 1) := by decide +kernel
theorem dX12_note_0 : decode cX12_note 0 = .ok (.aload_n 0, 1) := by decide +kernel
theorem dX12_note_1 : decode cX12_note 1 = .ok (.getfield 47, 3) := by decide +kernel
theorem dX12_note_4 : decode cX12_note 4 = .ok (.bipush 55, 2) := by decide +kernel
theorem dX12_note_6 : decode cX12_note 6 = .ok (.laload, 1) := by decide +kernel
theorem dX12_note_7 : decode cX12_note 7 = .ok (.ldc2_w 398, 3) := by decide +kernel
theorem dX12_note_10 : decode cX12_note 10 = .ok (.lcmp, 1) := by decide +kernel
theorem dX12_note_11 : decode cX12_note 11 = .ok (.ifCond .ne 49, 3) := by decide +kernel
theorem dX12_note_14 : decode cX12_note 14 = .ok (.iconst 3, 1) := by decide +kernel
theorem dX12_note_15 : decode cX12_note 15 = .ok (.istore_n 3, 1) := by decide +kernel
theorem dX12_note_16 : decode cX12_note 16 = .ok (.iload_n 3, 1) := by decide +kernel
theorem dX12_note_17 : decode cX12_note 17 = .ok (.sipush 180, 3) := by decide +kernel
theorem dX12_note_20 : decode cX12_note 20 = .ok (.if_icmp .ge 29, 3) := by decide +kernel
theorem dX12_note_23 : decode cX12_note 23 = .ok (.aload_n 0, 1) := by decide +kernel
theorem dX12_note_24 : decode cX12_note 24 = .ok (.getfield 47, 3) := by decide +kernel
theorem dX12_note_27 : decode cX12_note 27 = .ok (.bipush 56, 2) := by decide +kernel
theorem dX12_note_29 : decode cX12_note 29 = .ok (.iload_n 3, 1) := by decide +kernel
theorem dX12_note_30 : decode cX12_note 30 = .ok (.iadd, 1) := by decide +kernel
theorem dX12_note_31 : decode cX12_note 31 = .ok (.iconst 3, 1) := by decide +kernel
theorem dX12_note_32 : decode cX12_note 32 = .ok (.isub, 1) := by decide +kernel
theorem dX12_note_33 : decode cX12_note 33 = .ok (.aload_n 0, 1) := by decide +kernel
theorem dX12_note_34 : decode cX12_note 34 = .ok (.getfield 47, 3) := by decide +kernel
theorem dX12_note_37 : decode cX12_note 37 = .ok (.bipush 56, 2) := by decide +kernel
theorem dX12_note_39 : decode cX12_note 39 = .ok (.iload_n 3, 1) := by decide +kernel
theorem dX12_note_40 : decode cX12_note 40 = .ok (.iadd, 1) := by decide +kernel
theorem dX12_note_41 : decode cX12_note 41 = .ok (.laload, 1) := by decide +kernel
theorem dX12_note_42 : decode cX12_note 42 = .ok (.lastore, 1) := by decide +kernel
theorem dX12_note_43 : decode cX12_note 43 = .ok (.iinc 3 1, 3) := by decide +kernel
theorem dX12_note_46 : decode cX12_note 46 = .ok (.goto (-30), 3) := by decide +kernel
theorem dX12_note_49 : decode cX12_note 49 = .ok (.aload_n 0, 1) := by decide +kernel
theorem dX12_note_50 : decode cX12_note 50 = .ok (.getfield 47, 3) := by decide +kernel
theorem dX12_note_53 : decode cX12_note 53 = .ok (.bipush 55, 2) := by decide +kernel
theorem dX12_note_55 : decode cX12_note 55 = .ok (.dup2, 1) := by decide +kernel
theorem dX12_note_56 : decode cX12_note 56 = .ok (.laload, 1) := by decide +kernel
theorem dX12_note_57 : decode cX12_note 57 = .ok (.lconst 1, 1) := by decide +kernel
theorem dX12_note_58 : decode cX12_note 58 = .ok (.lsub, 1) := by decide +kernel
theorem dX12_note_59 : decode cX12_note 59 = .ok (.lastore, 1) := by decide +kernel
theorem dX12_note_60 : decode cX12_note 60 = .ok (.bipush 56, 2) := by decide +kernel
theorem dX12_note_62 : decode cX12_note 62 = .ok (.iconst 3, 1) := by decide +kernel
theorem dX12_note_63 : decode cX12_note 63 = .ok (.aload_n 0, 1) := by decide +kernel
theorem dX12_note_64 : decode cX12_note 64 = .ok (.getfield 47, 3) := by decide +kernel
theorem dX12_note_67 : decode cX12_note 67 = .ok (.bipush 55, 2) := by decide +kernel
theorem dX12_note_69 : decode cX12_note 69 = .ok (.laload, 1) := by decide +kernel
theorem dX12_note_70 : decode cX12_note 70 = .ok (.l2i, 1) := by decide +kernel
theorem dX12_note_71 : decode cX12_note 71 = .ok (.imul, 1) := by decide +kernel
theorem dX12_note_72 : decode cX12_note 72 = .ok (.iadd, 1) := by decide +kernel
theorem dX12_note_73 : decode cX12_note 73 = .ok (.istore_n 3, 1) := by decide +kernel
theorem dX12_note_74 : decode cX12_note 74 = .ok (.aload_n 0, 1) := by decide +kernel
theorem dX12_note_75 : decode cX12_note 75 = .ok (.getfield 47, 3) := by decide +kernel
theorem dX12_note_78 : decode cX12_note 78 = .ok (.iload_n 3, 1) := by decide +kernel
theorem dX12_note_79 : decode cX12_note 79 = .ok (.iload_n 1, 1) := by decide +kernel
theorem dX12_note_80 : decode cX12_note 80 = .ok (.i2l, 1) := by decide +kernel
theorem dX12_note_81 : decode cX12_note 81 = .ok (.lastore, 1) := by decide +kernel
theorem dX12_note_82 : decode cX12_note 82 = .ok (.aload_n 0, 1) := by decide +kernel
theorem dX12_note_83 : decode cX12_note 83 = .ok (.getfield 47, 3) := by decide +kernel
theorem dX12_note_86 : decode cX12_note 86 = .ok (.iload_n 3, 1) := by decide +kernel
theorem dX12_note_87 : decode cX12_note 87 = .ok (.iconst 1, 1) := by decide +kernel
theorem dX12_note_88 : decode cX12_note 88 = .ok (.iadd, 1) := by decide +kernel
theorem dX12_note_89 : decode cX12_note 89 = .ok (.iload_n 2, 1) := by decide +kernel
theorem dX12_note_90 : decode cX12_note 90 = .ok (.i2l, 1) := by decide +kernel
theorem dX12_note_91 : decode cX12_note 91 = .ok (.lastore, 1) := by decide +kernel
theorem dX12_note_92 : decode cX12_note 92 = .ok (.aload_n 0, 1) := by decide +kernel
theorem dX12_note_93 : decode cX12_note 93 = .ok (.getfield 47, 3) := by decide +kernel
theorem dX12_note_96 : decode cX12_note 96 = .ok (.iload_n 3, 1) := by decide +kernel
theorem dX12_note_97 : decode cX12_note 97 = .ok (.iconst 2, 1) := by decide +kernel
theorem dX12_note_98 : decode cX12_note 98 = .ok (.iadd, 1) := by decide +kernel
theorem dX12_note_99 : decode cX12_note 99 = .ok (.aload_n 0, 1) := by decide +kernel
theorem dX12_note_100 : decode cX12_note 100 = .ok (.invokevirtual 392, 3) := by decide +kernel
theorem dX12_note_103 : decode cX12_note 103 = .ok (.i2l, 1) := by decide +kernel
theorem dX12_note_104 : decode cX12_note 104 = .ok (.lastore, 1) := by decide +kernel
theorem dX12_note_105 : decode cX12_note 105 = .ok (.aload_n 0, 1) := by decide +kernel
theorem dX12_note_106 : decode cX12_note 106 = .ok (.getfield 47, 3) := by decide +kernel
theorem dX12_note_109 : decode cX12_note 109 = .ok (.bipush 55, 2) := by decide +kernel
theorem dX12_note_111 : decode cX12_note 111 = .ok (.dup2, 1) := by decide +kernel
theorem dX12_note_112 : decode cX12_note 112 = .ok (.laload, 1) := by decide +kernel
theorem dX12_note_113 : decode cX12_note 113 = .ok (.lconst 1, 1) := by decide +kernel
theorem dX12_note_114 : decode cX12_note 114 = .ok (.ladd, 1) := by decide +kernel
theorem dX12_note_115 : decode cX12_note 115 = .ok (.lastore, 1) := by decide +kernel
theorem dX12_note_116 : decode cX12_note 116 = .ok (.return_, 1) := by decide +kernel
theorem dX12_act_0 : decode cX12_act 0 = .ok (.aload_n 0, 1) := by decide +kernel
theorem dX12_act_1 : decode cX12_act 1 = .ok (.invokevirtual 400, 3) := by decide +kernel
theorem dX12_act_4 : decode cX12_act 4 = .ok (.aload_n 0, 1) := by decide +kernel
theorem dX12_act_5 : decode cX12_act 5 = .ok (.iload_n 1, 1) := by decide +kernel
theorem dX12_act_6 : decode cX12_act 6 = .ok (.iload_n 2, 1) := by decide +kernel
theorem dX12_act_7 : decode cX12_act 7 = .ok (.iload_n 3, 1) := by decide +kernel
theorem dX12_act_8 : decode cX12_act 8 = .ok (.iload 4, 2) := by decide +kernel
theorem dX12_act_10 : decode cX12_act 10 = .ok (.lload 5, 2) := by decide +kernel
theorem dX12_act_12 : decode cX12_act 12 = .ok (.invokevirtual 403, 3) := by decide +kernel
theorem dX12_act_15 : decode cX12_act 15 = .ok (.istore 7, 2) := by decide +kernel
theorem dX12_act_17 : decode cX12_act 17 = .ok (.aload_n 0, 1) := by decide +kernel
theorem dX12_act_18 : decode cX12_act 18 = .ok (.iload_n 1, 1) := by decide +kernel
theorem dX12_act_19 : decode cX12_act 19 = .ok (.iload_n 2, 1) := by decide +kernel
theorem dX12_act_20 : decode cX12_act 20 = .ok (.invokevirtual 407, 3) := by decide +kernel
theorem dX12_act_23 : decode cX12_act 23 = .ok (.iload 7, 2) := by decide +kernel
theorem dX12_act_25 : decode cX12_act 25 = .ok (.ireturn, 1) := by decide +kernel
theorem dX12_hand_0 : decode cX12_hand 0 = .ok (.aload_n 0, 1) := by decide +kernel
theorem dX12_hand_1 : decode cX12_hand 1 = .ok (.iload_n 1, 1) := by decide +kernel
theorem dX12_hand_2 : decode cX12_hand 2 = .ok (.iload_n 2, 1) := by decide +kernel
theorem dX12_hand_3 : decode cX12_hand 3 = .ok (.iload_n 3, 1) := by decide +kernel
theorem dX12_hand_4 : decode cX12_hand 4 = .ok (.iload 4, 2) := by decide +kernel
theorem dX12_hand_6 : decode cX12_hand 6 = .ok (.lload 5, 2) := by decide +kernel
theorem dX12_hand_8 : decode cX12_hand 8 = .ok (.invokevirtual 411, 3) := by decide +kernel
theorem dX12_hand_11 : decode cX12_hand 11 = .ok (.istore 7, 2) := by decide +kernel
theorem dX12_hand_13 : decode cX12_hand 13 = .ok (.iload 7, 2) := by decide +kernel
theorem dX12_hand_15 : decode cX12_hand 15 = .ok (.iconst (-1), 1) := by decide +kernel
theorem dX12_hand_16 : decode cX12_hand 16 = .ok (.if_icmp .eq 16, 3) := by decide +kernel
theorem dX12_hand_19 : decode cX12_hand 19 = .ok (.aload_n 0, 1) := by decide +kernel
theorem dX12_hand_20 : decode cX12_hand 20 = .ok (.getfield 50, 3) := by decide +kernel
theorem dX12_hand_23 : decode cX12_hand 23 = .ok (.iload 7, 2) := by decide +kernel
theorem dX12_hand_25 : decode cX12_hand 25 = .ok (.dup2, 1) := by decide +kernel
theorem dX12_hand_26 : decode cX12_hand 26 = .ok (.iaload, 1) := by decide +kernel
theorem dX12_hand_27 : decode cX12_hand 27 = .ok (.iconst 1, 1) := by decide +kernel
theorem dX12_hand_28 : decode cX12_hand 28 = .ok (.iadd, 1) := by decide +kernel
theorem dX12_hand_29 : decode cX12_hand 29 = .ok (.iastore, 1) := by decide +kernel
theorem dX12_hand_30 : decode cX12_hand 30 = .ok (.iconst (-1), 1) := by decide +kernel
theorem dX12_hand_31 : decode cX12_hand 31 = .ok (.ireturn, 1) := by decide +kernel
theorem dX12_hand_32 : decode cX12_hand 32 = .ok (.aload_n 0, 1) := by decide +kernel
theorem dX12_hand_33 : decode cX12_hand 33 = .ok (.iload_n 1, 1) := by decide +kernel
theorem dX12_hand_34 : decode cX12_hand 34 = .ok (.iload_n 2, 1) := by decide +kernel
theorem dX12_hand_35 : decode cX12_hand 35 = .ok (.iload_n 3, 1) := by decide +kernel
theorem dX12_hand_36 : decode cX12_hand 36 = .ok (.iload 4, 2) := by decide +kernel
theorem dX12_hand_38 : decode cX12_hand 38 = .ok (.lload 5, 2) := by decide +kernel
theorem dX12_hand_40 : decode cX12_hand 40 = .ok (.invokevirtual 414, 3) := by decide +kernel
theorem dX12_hand_43 : decode cX12_hand 43 = .ok (.ireturn, 1) := by decide +kernel
theorem dX12_fill_0 : decode cX12_fill 0 = .ok (.aload_n 0, 1) := by decide +kernel
theorem dX12_fill_1 : decode cX12_fill 1 = .ok (.iconst 0, 1) := by decide +kernel
theorem dX12_fill_2 : decode cX12_fill 2 = .ok (.iload_n 1, 1) := by decide +kernel
theorem dX12_fill_3 : decode cX12_fill 3 = .ok (.iload_n 2, 1) := by decide +kernel
theorem dX12_fill_4 : decode cX12_fill 4 = .ok (.iload_n 3, 1) := by decide +kernel
theorem dX12_fill_5 : decode cX12_fill 5 = .ok (.lconst 0, 1) := by decide +kernel
theorem dX12_fill_6 : decode cX12_fill 6 = .ok (.invokevirtual 417, 3) := by decide +kernel
theorem dX12_fill_9 : decode cX12_fill 9 = .ok (.ireturn, 1) := by decide +kernel
theorem dX12_empty_0 : decode cX12_empty 0 = .ok (.aload_n 0, 1) := by decide +kernel
theorem dX12_empty_1 : decode cX12_empty 1 = .ok (.iconst 1, 1) := by decide +kernel
theorem dX12_empty_2 : decode cX12_empty 2 = .ok (.iload_n 1, 1) := by decide +kernel
theorem dX12_empty_3 : decode cX12_empty 3 = .ok (.iconst 0, 1) := by decide +kernel
theorem dX12_empty_4 : decode cX12_empty 4 = .ok (.iconst 0, 1) := by decide +kernel
theorem dX12_empty_5 : decode cX12_empty 5 = .ok (.lconst 0, 1) := by decide +kernel
theorem dX12_empty_6 : decode cX12_empty 6 = .ok (.invokevirtual 417, 3) := by decide +kernel
theorem dX12_empty_9 : decode cX12_empty 9 = .ok (.ireturn, 1) := by decide +kernel
theorem dX12_strict_0 : decode cX12_strict 0 = .ok (.aload_n 0, 1) := by decide +kernel
theorem dX12_strict_1 : decode cX12_strict 1 = .ok (.iconst 2, 1) := by decide +kernel
theorem dX12_strict_2 : decode cX12_strict 2 = .ok (.iload_n 1, 1) := by decide +kernel
theorem dX12_strict_3 : decode cX12_strict 3 = .ok (.iconst 0, 1) := by decide +kernel
theorem dX12_strict_4 : decode cX12_strict 4 = .ok (.iconst 0, 1) := by decide +kernel
theorem dX12_strict_5 : decode cX12_strict 5 = .ok (.lconst 0, 1) := by decide +kernel
theorem dX12_strict_6 : decode cX12_strict 6 = .ok (.invokevirtual 417, 3) := by decide +kernel
theorem dX12_strict_9 : decode cX12_strict 9 = .ok (.ireturn, 1) := by decide +kernel
theorem dX12_tell_0 : decode cX12_tell 0 = .ok (.aload_n 0, 1) := by decide +kernel
theorem dX12_tell_1 : decode cX12_tell 1 = .ok (.iconst 3, 1) := by decide +kernel
theorem dX12_tell_2 : decode cX12_tell 2 = .ok (.iload_n 1, 1) := by decide +kernel
theorem dX12_tell_3 : decode cX12_tell 3 = .ok (.iload_n 2, 1) := by decide +kernel
theorem dX12_tell_4 : decode cX12_tell 4 = .ok (.iload_n 3, 1) := by decide +kernel
theorem dX12_tell_5 : decode cX12_tell 5 = .ok (.aload_n 0, 1) := by decide +kernel
theorem dX12_tell_6 : decode cX12_tell 6 = .ok (.invokevirtual 420, 3) := by decide +kernel
theorem dX12_tell_9 : decode cX12_tell 9 = .ok (.invokevirtual 417, 3) := by decide +kernel
theorem dX12_tell_12 : decode cX12_tell 12 = .ok (.istore 4, 2) := by decide +kernel
theorem dX12_tell_14 : decode cX12_tell 14 = .ok (.aload_n 0, 1) := by decide +kernel
theorem dX12_tell_15 : decode cX12_tell 15 = .ok (.iload 4, 2) := by decide +kernel
theorem dX12_tell_17 : decode cX12_tell 17 = .ok (.iconst (-1), 1) := by decide +kernel
theorem dX12_tell_18 : decode cX12_tell 18 = .ok (.if_icmp .ne 10, 3) := by decide +kernel
theorem dX12_tell_21 : decode cX12_tell 21 = .ok (.aload_n 0, 1) := by decide +kernel
theorem dX12_tell_22 : decode cX12_tell 22 = .ok (.getfield 97, 3) := by decide +kernel
theorem dX12_tell_25 : decode cX12_tell 25 = .ok (.goto 4, 3) := by decide +kernel
theorem dX12_tell_28 : decode cX12_tell 28 = .ok (.iconst 0, 1) := by decide +kernel
theorem dX12_tell_29 : decode cX12_tell 29 = .ok (.putfield 97, 3) := by decide +kernel
theorem dX12_tell_32 : decode cX12_tell 32 = .ok (.iload 4, 2) := by decide +kernel
theorem dX12_tell_34 : decode cX12_tell 34 = .ok (.ireturn, 1) := by decide +kernel
theorem dX12_drop_0 : decode cX12_drop 0 = .ok (.aload_n 0, 1) := by decide +kernel
theorem dX12_drop_1 : decode cX12_drop 1 = .ok (.iconst 4, 1) := by decide +kernel
theorem dX12_drop_2 : decode cX12_drop 2 = .ok (.iload_n 1, 1) := by decide +kernel
theorem dX12_drop_3 : decode cX12_drop 3 = .ok (.iload_n 2, 1) := by decide +kernel
theorem dX12_drop_4 : decode cX12_drop 4 = .ok (.iload_n 3, 1) := by decide +kernel
theorem dX12_drop_5 : decode cX12_drop 5 = .ok (.lconst 0, 1) := by decide +kernel
theorem dX12_drop_6 : decode cX12_drop 6 = .ok (.invokevirtual 417, 3) := by decide +kernel
theorem dX12_drop_9 : decode cX12_drop 9 = .ok (.ireturn, 1) := by decide +kernel
theorem dX12_draw_0 : decode cX12_draw 0 = .ok (.aload_n 0, 1) := by decide +kernel
theorem dX12_draw_1 : decode cX12_draw 1 = .ok (.aload_n 0, 1) := by decide +kernel
theorem dX12_draw_2 : decode cX12_draw 2 = .ok (.getfield 423, 3) := by decide +kernel
theorem dX12_draw_5 : decode cX12_draw 5 = .ok (.ldc2_w 426, 3) := by decide +kernel
theorem dX12_draw_8 : decode cX12_draw 8 = .ok (.lmul, 1) := by decide +kernel
theorem dX12_draw_9 : decode cX12_draw 9 = .ok (.ldc2_w 428, 3) := by decide +kernel
theorem dX12_draw_12 : decode cX12_draw 12 = .ok (.ladd, 1) := by decide +kernel
theorem dX12_draw_13 : decode cX12_draw 13 = .ok (.putfield 423, 3) := by decide +kernel
theorem dX12_draw_16 : decode cX12_draw 16 = .ok (.aload_n 0, 1) := by decide +kernel
theorem dX12_draw_17 : decode cX12_draw 17 = .ok (.getfield 423, 3) := by decide +kernel
theorem dX12_draw_20 : decode cX12_draw 20 = .ok (.bipush 33, 2) := by decide +kernel
theorem dX12_draw_22 : decode cX12_draw 22 = .ok (.lushr, 1) := by decide +kernel
theorem dX12_draw_23 : decode cX12_draw 23 = .ok (.iload_n 1, 1) := by decide +kernel
theorem dX12_draw_24 : decode cX12_draw 24 = .ok (.i2l, 1) := by decide +kernel
theorem dX12_draw_25 : decode cX12_draw 25 = .ok (.lrem, 1) := by decide +kernel
theorem dX12_draw_26 : decode cX12_draw 26 = .ok (.l2i, 1) := by decide +kernel
theorem dX12_draw_27 : decode cX12_draw 27 = .ok (.ireturn, 1) := by decide +kernel
theorem dX12_tryOne_0 : decode cX12_tryOne 0 = .ok (.aload_n 0, 1) := by decide +kernel
theorem dX12_tryOne_1 : decode cX12_tryOne 1 = .ok (.iload_n 1, 1) := by decide +kernel
theorem dX12_tryOne_2 : decode cX12_tryOne 2 = .ok (.iload_n 2, 1) := by decide +kernel
theorem dX12_tryOne_3 : decode cX12_tryOne 3 = .ok (.iload_n 3, 1) := by decide +kernel
theorem dX12_tryOne_4 : decode cX12_tryOne 4 = .ok (.iload 4, 2) := by decide +kernel
theorem dX12_tryOne_6 : decode cX12_tryOne 6 = .ok (.lload 5, 2) := by decide +kernel
theorem dX12_tryOne_8 : decode cX12_tryOne 8 = .ok (.invokevirtual 411, 3) := by decide +kernel
theorem dX12_tryOne_11 : decode cX12_tryOne 11 = .ok (.iconst (-1), 1) := by decide +kernel
theorem dX12_tryOne_12 : decode cX12_tryOne 12 = .ok (.if_icmp .ne 15, 3) := by decide +kernel
theorem dX12_tryOne_15 : decode cX12_tryOne 15 = .ok (.aload_n 0, 1) := by decide +kernel
theorem dX12_tryOne_16 : decode cX12_tryOne 16 = .ok (.iload_n 1, 1) := by decide +kernel
theorem dX12_tryOne_17 : decode cX12_tryOne 17 = .ok (.iload_n 2, 1) := by decide +kernel
theorem dX12_tryOne_18 : decode cX12_tryOne 18 = .ok (.iload_n 3, 1) := by decide +kernel
theorem dX12_tryOne_19 : decode cX12_tryOne 19 = .ok (.iload 4, 2) := by decide +kernel
theorem dX12_tryOne_21 : decode cX12_tryOne 21 = .ok (.lload 5, 2) := by decide +kernel
theorem dX12_tryOne_23 : decode cX12_tryOne 23 = .ok (.invokevirtual 414, 3) := by decide +kernel
theorem dX12_tryOne_26 : decode cX12_tryOne 26 = .ok (.pop, 1) := by decide +kernel
theorem dX12_tryOne_27 : decode cX12_tryOne 27 = .ok (.return_, 1) := by decide +kernel
theorem dX12_drawsForm_0 : decode cX12_drawsForm 0 = .ok (.aload_n 0, 1) := by decide +kernel
theorem dX12_drawsForm_1 : decode cX12_drawsForm 1 = .ok (.aload_n 0, 1) := by decide +kernel
theorem dX12_drawsForm_2 : decode cX12_drawsForm 2 = .ok (.getfield 269, 3) := by decide +kernel
theorem dX12_drawsForm_5 : decode cX12_drawsForm 5 = .ok (.invokevirtual 430, 3) := by decide +kernel
theorem dX12_drawsForm_8 : decode cX12_drawsForm 8 = .ok (.istore_n 2, 1) := by decide +kernel
theorem dX12_drawsForm_9 : decode cX12_drawsForm 9 = .ok (.aload_n 0, 1) := by decide +kernel
theorem dX12_drawsForm_10 : decode cX12_drawsForm 10 = .ok (.iconst 4, 1) := by decide +kernel
theorem dX12_drawsForm_11 : decode cX12_drawsForm 11 = .ok (.invokevirtual 430, 3) := by decide +kernel
theorem dX12_drawsForm_14 : decode cX12_drawsForm 14 = .ok (.istore_n 3, 1) := by decide +kernel
theorem dX12_drawsForm_15 : decode cX12_drawsForm 15 = .ok (.aload_n 0, 1) := by decide +kernel
theorem dX12_drawsForm_16 : decode cX12_drawsForm 16 = .ok (.iconst 2, 1) := by decide +kernel
theorem dX12_drawsForm_17 : decode cX12_drawsForm 17 = .ok (.invokevirtual 430, 3) := by decide +kernel
theorem dX12_drawsForm_20 : decode cX12_drawsForm 20 = .ok (.istore 4, 2) := by decide +kernel
theorem dX12_drawsForm_22 : decode cX12_drawsForm 22 = .ok (.lconst 0, 1) := by decide +kernel
theorem dX12_drawsForm_23 : decode cX12_drawsForm 23 = .ok (.lstore 5, 2) := by decide +kernel
theorem dX12_drawsForm_25 : decode cX12_drawsForm 25 = .ok (.iconst 0, 1) := by decide +kernel
theorem dX12_drawsForm_26 : decode cX12_drawsForm 26 = .ok (.istore 7, 2) := by decide +kernel
theorem dX12_drawsForm_28 : decode cX12_drawsForm 28 = .ok (.iload 7, 2) := by decide +kernel
theorem dX12_drawsForm_30 : decode cX12_drawsForm 30 = .ok (.iconst 3, 1) := by decide +kernel
theorem dX12_drawsForm_31 : decode cX12_drawsForm 31 = .ok (.if_icmp .ge 30, 3) := by decide +kernel
theorem dX12_drawsForm_34 : decode cX12_drawsForm 34 = .ok (.iload_n 1, 1) := by decide +kernel
theorem dX12_drawsForm_35 : decode cX12_drawsForm 35 = .ok (.ifCond .eq 26, 3) := by decide +kernel
theorem dX12_drawsForm_38 : decode cX12_drawsForm 38 = .ok (.ldc2_w 122, 3) := by decide +kernel
theorem dX12_drawsForm_41 : decode cX12_drawsForm 41 = .ok (.lload 5, 2) := by decide +kernel
theorem dX12_drawsForm_43 : decode cX12_drawsForm 43 = .ok (.lmul, 1) := by decide +kernel
theorem dX12_drawsForm_44 : decode cX12_drawsForm 44 = .ok (.aload_n 0, 1) := by decide +kernel
theorem dX12_drawsForm_45 : decode cX12_drawsForm 45 = .ok (.iconst 3, 1) := by decide +kernel
theorem dX12_drawsForm_46 : decode cX12_drawsForm 46 = .ok (.invokevirtual 430, 3) := by decide +kernel
theorem dX12_drawsForm_49 : decode cX12_drawsForm 49 = .ok (.i2l, 1) := by decide +kernel
theorem dX12_drawsForm_50 : decode cX12_drawsForm 50 = .ok (.ladd, 1) := by decide +kernel
theorem dX12_drawsForm_51 : decode cX12_drawsForm 51 = .ok (.lconst 1, 1) := by decide +kernel
theorem dX12_drawsForm_52 : decode cX12_drawsForm 52 = .ok (.ladd, 1) := by decide +kernel
theorem dX12_drawsForm_53 : decode cX12_drawsForm 53 = .ok (.lstore 5, 2) := by decide +kernel
theorem dX12_drawsForm_55 : decode cX12_drawsForm 55 = .ok (.iinc 7 1, 3) := by decide +kernel
theorem dX12_drawsForm_58 : decode cX12_drawsForm 58 = .ok (.goto (-30), 3) := by decide +kernel
theorem dX12_drawsForm_61 : decode cX12_drawsForm 61 = .ok (.aload_n 0, 1) := by decide +kernel
theorem dX12_drawsForm_62 : decode cX12_drawsForm 62 = .ok (.iload_n 1, 1) := by decide +kernel
theorem dX12_drawsForm_63 : decode cX12_drawsForm 63 = .ok (.ifCond .eq 7, 3) := by decide +kernel
theorem dX12_drawsForm_66 : decode cX12_drawsForm 66 = .ok (.iconst 3, 1) := by decide +kernel
theorem dX12_drawsForm_67 : decode cX12_drawsForm 67 = .ok (.goto 4, 3) := by decide +kernel
theorem dX12_drawsForm_70 : decode cX12_drawsForm 70 = .ok (.iconst 4, 1) := by decide +kernel
theorem dX12_drawsForm_71 : decode cX12_drawsForm 71 = .ok (.iload_n 2, 1) := by decide +kernel
theorem dX12_drawsForm_72 : decode cX12_drawsForm 72 = .ok (.iload_n 3, 1) := by decide +kernel
theorem dX12_drawsForm_73 : decode cX12_drawsForm 73 = .ok (.iload 4, 2) := by decide +kernel
theorem dX12_drawsForm_75 : decode cX12_drawsForm 75 = .ok (.lload 5, 2) := by decide +kernel
theorem dX12_drawsForm_77 : decode cX12_drawsForm 77 = .ok (.invokevirtual 433, 3) := by decide +kernel
theorem dX12_drawsForm_80 : decode cX12_drawsForm 80 = .ok (.return_, 1) := by decide +kernel
theorem dX12_drawWay_0 : decode cX12_drawWay 0 = .ok (.aload_n 0, 1) := by decide +kernel
theorem dX12_drawWay_1 : decode cX12_drawWay 1 = .ok (.bipush 8, 2) := by decide +kernel
theorem dX12_drawWay_3 : decode cX12_drawWay 3 = .ok (.invokevirtual 430, 3) := by decide +kernel
theorem dX12_drawWay_6 : decode cX12_drawWay 6 = .ok (.istore_n 1, 1) := by decide +kernel
theorem dX12_drawWay_7 : decode cX12_drawWay 7 = .ok (.iload_n 1, 1) := by decide +kernel
theorem dX12_drawWay_8 : decode cX12_drawWay 8 = .ok (.iconst 4, 1) := by decide +kernel
theorem dX12_drawWay_9 : decode cX12_drawWay 9 = .ok (.if_icmp .ge 34, 3) := by decide +kernel
theorem dX12_drawWay_12 : decode cX12_drawWay 12 = .ok (.aload_n 0, 1) := by decide +kernel
theorem dX12_drawWay_13 : decode cX12_drawWay 13 = .ok (.iconst 3, 1) := by decide +kernel
theorem dX12_drawWay_14 : decode cX12_drawWay 14 = .ok (.invokevirtual 430, 3) := by decide +kernel
theorem dX12_drawWay_17 : decode cX12_drawWay 17 = .ok (.istore_n 2, 1) := by decide +kernel
theorem dX12_drawWay_18 : decode cX12_drawWay 18 = .ok (.aload_n 0, 1) := by decide +kernel
theorem dX12_drawWay_19 : decode cX12_drawWay 19 = .ok (.aload_n 0, 1) := by decide +kernel
theorem dX12_drawWay_20 : decode cX12_drawWay 20 = .ok (.getfield 269, 3) := by decide +kernel
theorem dX12_drawWay_23 : decode cX12_drawWay 23 = .ok (.invokevirtual 430, 3) := by decide +kernel
theorem dX12_drawWay_26 : decode cX12_drawWay 26 = .ok (.istore_n 3, 1) := by decide +kernel
theorem dX12_drawWay_27 : decode cX12_drawWay 27 = .ok (.aload_n 0, 1) := by decide +kernel
theorem dX12_drawWay_28 : decode cX12_drawWay 28 = .ok (.iconst 0, 1) := by decide +kernel
theorem dX12_drawWay_29 : decode cX12_drawWay 29 = .ok (.iload_n 2, 1) := by decide +kernel
theorem dX12_drawWay_30 : decode cX12_drawWay 30 = .ok (.iload_n 3, 1) := by decide +kernel
theorem dX12_drawWay_31 : decode cX12_drawWay 31 = .ok (.aload_n 0, 1) := by decide +kernel
theorem dX12_drawWay_32 : decode cX12_drawWay 32 = .ok (.iconst 4, 1) := by decide +kernel
theorem dX12_drawWay_33 : decode cX12_drawWay 33 = .ok (.invokevirtual 430, 3) := by decide +kernel
theorem dX12_drawWay_36 : decode cX12_drawWay 36 = .ok (.lconst 0, 1) := by decide +kernel
theorem dX12_drawWay_37 : decode cX12_drawWay 37 = .ok (.invokevirtual 433, 3) := by decide +kernel
theorem dX12_drawWay_40 : decode cX12_drawWay 40 = .ok (.goto 60, 3) := by decide +kernel
theorem dX12_drawWay_43 : decode cX12_drawWay 43 = .ok (.iload_n 1, 1) := by decide +kernel
theorem dX12_drawWay_44 : decode cX12_drawWay 44 = .ok (.iconst 4, 1) := by decide +kernel
theorem dX12_drawWay_45 : decode cX12_drawWay 45 = .ok (.if_icmp .ne 19, 3) := by decide +kernel
theorem dX12_drawWay_48 : decode cX12_drawWay 48 = .ok (.aload_n 0, 1) := by decide +kernel
theorem dX12_drawWay_49 : decode cX12_drawWay 49 = .ok (.iconst 1, 1) := by decide +kernel
theorem dX12_drawWay_50 : decode cX12_drawWay 50 = .ok (.aload_n 0, 1) := by decide +kernel
theorem dX12_drawWay_51 : decode cX12_drawWay 51 = .ok (.iconst 3, 1) := by decide +kernel
theorem dX12_drawWay_52 : decode cX12_drawWay 52 = .ok (.invokevirtual 430, 3) := by decide +kernel
theorem dX12_drawWay_55 : decode cX12_drawWay 55 = .ok (.iconst 0, 1) := by decide +kernel
theorem dX12_drawWay_56 : decode cX12_drawWay 56 = .ok (.iconst 0, 1) := by decide +kernel
theorem dX12_drawWay_57 : decode cX12_drawWay 57 = .ok (.lconst 0, 1) := by decide +kernel
theorem dX12_drawWay_58 : decode cX12_drawWay 58 = .ok (.invokevirtual 433, 3) := by decide +kernel
theorem dX12_drawWay_61 : decode cX12_drawWay 61 = .ok (.goto 39, 3) := by decide +kernel
theorem dX12_drawWay_64 : decode cX12_drawWay 64 = .ok (.iload_n 1, 1) := by decide +kernel
theorem dX12_drawWay_65 : decode cX12_drawWay 65 = .ok (.iconst 5, 1) := by decide +kernel
theorem dX12_drawWay_66 : decode cX12_drawWay 66 = .ok (.if_icmp .ne 19, 3) := by decide +kernel
theorem dX12_drawWay_69 : decode cX12_drawWay 69 = .ok (.aload_n 0, 1) := by decide +kernel
theorem dX12_drawWay_70 : decode cX12_drawWay 70 = .ok (.iconst 2, 1) := by decide +kernel
theorem dX12_drawWay_71 : decode cX12_drawWay 71 = .ok (.aload_n 0, 1) := by decide +kernel
theorem dX12_drawWay_72 : decode cX12_drawWay 72 = .ok (.iconst 2, 1) := by decide +kernel
theorem dX12_drawWay_73 : decode cX12_drawWay 73 = .ok (.invokevirtual 430, 3) := by decide +kernel
theorem dX12_drawWay_76 : decode cX12_drawWay 76 = .ok (.iconst 0, 1) := by decide +kernel
theorem dX12_drawWay_77 : decode cX12_drawWay 77 = .ok (.iconst 0, 1) := by decide +kernel
theorem dX12_drawWay_78 : decode cX12_drawWay 78 = .ok (.lconst 0, 1) := by decide +kernel
theorem dX12_drawWay_79 : decode cX12_drawWay 79 = .ok (.invokevirtual 433, 3) := by decide +kernel
theorem dX12_drawWay_82 : decode cX12_drawWay 82 = .ok (.goto 18, 3) := by decide +kernel
theorem dX12_drawWay_85 : decode cX12_drawWay 85 = .ok (.aload_n 0, 1) := by decide +kernel
theorem dX12_drawWay_86 : decode cX12_drawWay 86 = .ok (.iload_n 1, 1) := by decide +kernel
theorem dX12_drawWay_87 : decode cX12_drawWay 87 = .ok (.bipush 6, 2) := by decide +kernel
theorem dX12_drawWay_89 : decode cX12_drawWay 89 = .ok (.if_icmp .ne 7, 3) := by decide +kernel
theorem dX12_drawWay_92 : decode cX12_drawWay 92 = .ok (.iconst 1, 1) := by decide +kernel
theorem dX12_drawWay_93 : decode cX12_drawWay 93 = .ok (.goto 4, 3) := by decide +kernel
theorem dX12_drawWay_96 : decode cX12_drawWay 96 = .ok (.iconst 0, 1) := by decide +kernel
theorem dX12_drawWay_97 : decode cX12_drawWay 97 = .ok (.invokevirtual 437, 3) := by decide +kernel
theorem dX12_drawWay_100 : decode cX12_drawWay 100 = .ok (.return_, 1) := by decide +kernel
theorem dX12_ways_0 : decode cX12_ways 0 = .ok (.aload_n 0, 1) := by decide +kernel
theorem dX12_ways_1 : decode cX12_ways 1 = .ok (.invokevirtual 272, 3) := by decide +kernel
theorem dX12_ways_4 : decode cX12_ways 4 = .ok (.ifCond .eq 13, 3) := by decide +kernel
theorem dX12_ways_7 : decode cX12_ways 7 = .ok (.iload_n 1, 1) := by decide +kernel
theorem dX12_ways_8 : decode cX12_ways 8 = .ok (.iconst 1, 1) := by decide +kernel
theorem dX12_ways_9 : decode cX12_ways 9 = .ok (.bipush 40, 2) := by decide +kernel
theorem dX12_ways_11 : decode cX12_ways 11 = .ok (.invokestatic 100, 3) := by decide +kernel
theorem dX12_ways_14 : decode cX12_ways 14 = .ok (.ifCond .ne 5, 3) := by decide +kernel
theorem dX12_ways_17 : decode cX12_ways 17 = .ok (.iconst (-1), 1) := by decide +kernel
theorem dX12_ways_18 : decode cX12_ways 18 = .ok (.ireturn, 1) := by decide +kernel
theorem dX12_ways_19 : decode cX12_ways 19 = .ok (.aload_n 0, 1) := by decide +kernel
theorem dX12_ways_20 : decode cX12_ways 20 = .ok (.lload_n 2, 1) := by decide +kernel
theorem dX12_ways_21 : decode cX12_ways 21 = .ok (.putfield 423, 3) := by decide +kernel
theorem dX12_ways_24 : decode cX12_ways 24 = .ok (.iconst 0, 1) := by decide +kernel
theorem dX12_ways_25 : decode cX12_ways 25 = .ok (.istore 4, 2) := by decide +kernel
theorem dX12_ways_27 : decode cX12_ways 27 = .ok (.iload 4, 2) := by decide +kernel
theorem dX12_ways_29 : decode cX12_ways 29 = .ok (.iload_n 1, 1) := by decide +kernel
theorem dX12_ways_30 : decode cX12_ways 30 = .ok (.if_icmp .ge 13, 3) := by decide +kernel
theorem dX12_ways_33 : decode cX12_ways 33 = .ok (.aload_n 0, 1) := by decide +kernel
theorem dX12_ways_34 : decode cX12_ways 34 = .ok (.invokevirtual 441, 3) := by decide +kernel
theorem dX12_ways_37 : decode cX12_ways 37 = .ok (.iinc 4 1, 3) := by decide +kernel
theorem dX12_ways_40 : decode cX12_ways 40 = .ok (.goto (-13), 3) := by decide +kernel
theorem dX12_ways_43 : decode cX12_ways 43 = .ok (.aload_n 0, 1) := by decide +kernel
theorem dX12_ways_44 : decode cX12_ways 44 = .ok (.invokevirtual 392, 3) := by decide +kernel
theorem dX12_ways_47 : decode cX12_ways 47 = .ok (.ireturn, 1) := by decide +kernel
theorem dX12_status_0 : decode cX12_status 0 = .ok (.iload_n 1, 1) := by decide +kernel
theorem dX12_status_1 : decode cX12_status 1 = .ok (.iconst 0, 1) := by decide +kernel
theorem dX12_status_2 : decode cX12_status 2 = .ok (.iconst 2, 1) := by decide +kernel
theorem dX12_status_3 : decode cX12_status 3 = .ok (.invokestatic 100, 3) := by decide +kernel
theorem dX12_status_6 : decode cX12_status 6 = .ok (.ifCond .eq 12, 3) := by decide +kernel
theorem dX12_status_9 : decode cX12_status 9 = .ok (.aload_n 0, 1) := by decide +kernel
theorem dX12_status_10 : decode cX12_status 10 = .ok (.getfield 50, 3) := by decide +kernel
theorem dX12_status_13 : decode cX12_status 13 = .ok (.iload_n 1, 1) := by decide +kernel
theorem dX12_status_14 : decode cX12_status 14 = .ok (.iaload, 1) := by decide +kernel
theorem dX12_status_15 : decode cX12_status 15 = .ok (.goto 4, 3) := by decide +kernel
theorem dX12_status_18 : decode cX12_status 18 = .ok (.iconst (-1), 1) := by decide +kernel
theorem dX12_status_19 : decode cX12_status 19 = .ok (.ireturn, 1) := by decide +kernel
theorem dX12_undo_0 : decode cX12_undo 0 = .ok (.aload_n 0, 1) := by decide +kernel
theorem dX12_undo_1 : decode cX12_undo 1 = .ok (.getfield 283, 3) := by decide +kernel
theorem dX12_undo_4 : decode cX12_undo 4 = .ok (.ifCond .ne 5, 3) := by decide +kernel
theorem dX12_undo_7 : decode cX12_undo 7 = .ok (.iconst (-1), 1) := by decide +kernel
theorem dX12_undo_8 : decode cX12_undo 8 = .ok (.ireturn, 1) := by decide +kernel
theorem dX12_undo_9 : decode cX12_undo 9 = .ok (.aload_n 0, 1) := by decide +kernel
theorem dX12_undo_10 : decode cX12_undo 10 = .ok (.dup, 1) := by decide +kernel
theorem dX12_undo_11 : decode cX12_undo 11 = .ok (.getfield 283, 3) := by decide +kernel
theorem dX12_undo_14 : decode cX12_undo 14 = .ok (.iconst 1, 1) := by decide +kernel
theorem dX12_undo_15 : decode cX12_undo 15 = .ok (.isub, 1) := by decide +kernel
theorem dX12_undo_16 : decode cX12_undo 16 = .ok (.putfield 283, 3) := by decide +kernel
theorem dX12_undo_19 : decode cX12_undo 19 = .ok (.iconst 0, 1) := by decide +kernel
theorem dX12_undo_20 : decode cX12_undo 20 = .ok (.istore_n 1, 1) := by decide +kernel
theorem dX12_undo_21 : decode cX12_undo 21 = .ok (.iload_n 1, 1) := by decide +kernel
theorem dX12_undo_22 : decode cX12_undo 22 = .ok (.sipush 236, 3) := by decide +kernel
theorem dX12_undo_25 : decode cX12_undo 25 = .ok (.if_icmp .ge 30, 3) := by decide +kernel
theorem dX12_undo_28 : decode cX12_undo 28 = .ok (.aload_n 0, 1) := by decide +kernel
theorem dX12_undo_29 : decode cX12_undo 29 = .ok (.getfield 47, 3) := by decide +kernel
theorem dX12_undo_32 : decode cX12_undo 32 = .ok (.iload_n 1, 1) := by decide +kernel
theorem dX12_undo_33 : decode cX12_undo 33 = .ok (.aload_n 0, 1) := by decide +kernel
theorem dX12_undo_34 : decode cX12_undo 34 = .ok (.getfield 74, 3) := by decide +kernel
theorem dX12_undo_37 : decode cX12_undo 37 = .ok (.sipush 236, 3) := by decide +kernel
theorem dX12_undo_40 : decode cX12_undo 40 = .ok (.aload_n 0, 1) := by decide +kernel
theorem dX12_undo_41 : decode cX12_undo 41 = .ok (.getfield 283, 3) := by decide +kernel
theorem dX12_undo_44 : decode cX12_undo 44 = .ok (.imul, 1) := by decide +kernel
theorem dX12_undo_45 : decode cX12_undo 45 = .ok (.iload_n 1, 1) := by decide +kernel
theorem dX12_undo_46 : decode cX12_undo 46 = .ok (.iadd, 1) := by decide +kernel
theorem dX12_undo_47 : decode cX12_undo 47 = .ok (.laload, 1) := by decide +kernel
theorem dX12_undo_48 : decode cX12_undo 48 = .ok (.lastore, 1) := by decide +kernel
theorem dX12_undo_49 : decode cX12_undo 49 = .ok (.iinc 1 1, 3) := by decide +kernel
theorem dX12_undo_52 : decode cX12_undo 52 = .ok (.goto (-31), 3) := by decide +kernel
theorem dX12_undo_55 : decode cX12_undo 55 = .ok (.aload_n 0, 1) := by decide +kernel
theorem dX12_undo_56 : decode cX12_undo 56 = .ok (.getfield 283, 3) := by decide +kernel
theorem dX12_undo_59 : decode cX12_undo 59 = .ok (.ireturn, 1) := by decide +kernel
theorem dX12_log_0 : decode cX12_log 0 = .ok (.aload_n 0, 1) := by decide +kernel
theorem dX12_log_1 : decode cX12_log 1 = .ok (.getfield 47, 3) := by decide +kernel
theorem dX12_log_4 : decode cX12_log 4 = .ok (.bipush 55, 2) := by decide +kernel
theorem dX12_log_6 : decode cX12_log 6 = .ok (.laload, 1) := by decide +kernel
theorem dX12_log_7 : decode cX12_log 7 = .ok (.l2i, 1) := by decide +kernel
theorem dX12_log_8 : decode cX12_log 8 = .ok (.istore_n 3, 1) := by decide +kernel
theorem dX12_log_9 : decode cX12_log 9 = .ok (.iload_n 1, 1) := by decide +kernel
theorem dX12_log_10 : decode cX12_log 10 = .ok (.iconst 0, 1) := by decide +kernel
theorem dX12_log_11 : decode cX12_log 11 = .ok (.iload_n 3, 1) := by decide +kernel
theorem dX12_log_12 : decode cX12_log 12 = .ok (.iconst 1, 1) := by decide +kernel
theorem dX12_log_13 : decode cX12_log 13 = .ok (.isub, 1) := by decide +kernel
theorem dX12_log_14 : decode cX12_log 14 = .ok (.invokestatic 100, 3) := by decide +kernel
theorem dX12_log_17 : decode cX12_log 17 = .ok (.ifCond .eq 33, 3) := by decide +kernel
theorem dX12_log_20 : decode cX12_log 20 = .ok (.iload_n 2, 1) := by decide +kernel
theorem dX12_log_21 : decode cX12_log 21 = .ok (.iconst 0, 1) := by decide +kernel
theorem dX12_log_22 : decode cX12_log 22 = .ok (.iconst 2, 1) := by decide +kernel
theorem dX12_log_23 : decode cX12_log 23 = .ok (.invokestatic 100, 3) := by decide +kernel
theorem dX12_log_26 : decode cX12_log 26 = .ok (.ifCond .eq 24, 3) := by decide +kernel
theorem dX12_log_29 : decode cX12_log 29 = .ok (.aload_n 0, 1) := by decide +kernel
theorem dX12_log_30 : decode cX12_log 30 = .ok (.getfield 47, 3) := by decide +kernel
theorem dX12_log_33 : decode cX12_log 33 = .ok (.bipush 56, 2) := by decide +kernel
theorem dX12_log_35 : decode cX12_log 35 = .ok (.iconst 3, 1) := by decide +kernel
theorem dX12_log_36 : decode cX12_log 36 = .ok (.iload_n 3, 1) := by decide +kernel
theorem dX12_log_37 : decode cX12_log 37 = .ok (.iconst 1, 1) := by decide +kernel
theorem dX12_log_38 : decode cX12_log 38 = .ok (.isub, 1) := by decide +kernel
theorem dX12_log_39 : decode cX12_log 39 = .ok (.iload_n 1, 1) := by decide +kernel
theorem dX12_log_40 : decode cX12_log 40 = .ok (.isub, 1) := by decide +kernel
theorem dX12_log_41 : decode cX12_log 41 = .ok (.imul, 1) := by decide +kernel
theorem dX12_log_42 : decode cX12_log 42 = .ok (.iadd, 1) := by decide +kernel
theorem dX12_log_43 : decode cX12_log 43 = .ok (.iload_n 2, 1) := by decide +kernel
theorem dX12_log_44 : decode cX12_log 44 = .ok (.iadd, 1) := by decide +kernel
theorem dX12_log_45 : decode cX12_log 45 = .ok (.laload, 1) := by decide +kernel
theorem dX12_log_46 : decode cX12_log 46 = .ok (.l2i, 1) := by decide +kernel
theorem dX12_log_47 : decode cX12_log 47 = .ok (.goto 6, 3) := by decide +kernel
theorem dX12_log_50 : decode cX12_log 50 = .ok (.ldc_w 259, 3) := by decide +kernel
theorem dX12_log_53 : decode cX12_log 53 = .ok (.ireturn, 1) := by decide +kernel
theorem dX12_formsTold_0 : decode cX12_formsTold 0 = .ok (.iconst 0, 1) := by decide +kernel
theorem dX12_formsTold_1 : decode cX12_formsTold 1 = .ok (.istore_n 1, 1) := by decide +kernel
theorem dX12_formsTold_2 : decode cX12_formsTold 2 = .ok (.iconst 0, 1) := by decide +kernel
theorem dX12_formsTold_3 : decode cX12_formsTold 3 = .ok (.istore_n 2, 1) := by decide +kernel
theorem dX12_formsTold_4 : decode cX12_formsTold 4 = .ok (.iload_n 2, 1) := by decide +kernel
theorem dX12_formsTold_5 : decode cX12_formsTold 5 = .ok (.aload_n 0, 1) := by decide +kernel
theorem dX12_formsTold_6 : decode cX12_formsTold 6 = .ok (.getfield 269, 3) := by decide +kernel
theorem dX12_formsTold_9 : decode cX12_formsTold 9 = .ok (.if_icmp .ge 17, 3) := by decide +kernel
theorem dX12_formsTold_12 : decode cX12_formsTold 12 = .ok (.iload_n 1, 1) := by decide +kernel
theorem dX12_formsTold_13 : decode cX12_formsTold 13 = .ok (.aload_n 0, 1) := by decide +kernel
theorem dX12_formsTold_14 : decode cX12_formsTold 14 = .ok (.iload_n 2, 1) := by decide +kernel
theorem dX12_formsTold_15 : decode cX12_formsTold 15 = .ok (.invokevirtual 395, 3) := by decide +kernel
theorem dX12_formsTold_18 : decode cX12_formsTold 18 = .ok (.iadd, 1) := by decide +kernel
theorem dX12_formsTold_19 : decode cX12_formsTold 19 = .ok (.istore_n 1, 1) := by decide +kernel
theorem dX12_formsTold_20 : decode cX12_formsTold 20 = .ok (.iinc 2 1, 3) := by decide +kernel
theorem dX12_formsTold_23 : decode cX12_formsTold 23 = .ok (.goto (-19), 3) := by decide +kernel
theorem dX12_formsTold_26 : decode cX12_formsTold 26 = .ok (.iload_n 1, 1) := by decide +kernel
theorem dX12_formsTold_27 : decode cX12_formsTold 27 = .ok (.ireturn, 1) := by decide +kernel
theorem dX12_wordsTold_0 : decode cX12_wordsTold 0 = .ok (.iconst 0, 1) := by decide +kernel
theorem dX12_wordsTold_1 : decode cX12_wordsTold 1 = .ok (.istore_n 2, 1) := by decide +kernel
theorem dX12_wordsTold_2 : decode cX12_wordsTold 2 = .ok (.iconst 0, 1) := by decide +kernel
theorem dX12_wordsTold_3 : decode cX12_wordsTold 3 = .ok (.istore_n 3, 1) := by decide +kernel
theorem dX12_wordsTold_4 : decode cX12_wordsTold 4 = .ok (.iload_n 3, 1) := by decide +kernel
theorem dX12_wordsTold_5 : decode cX12_wordsTold 5 = .ok (.bipush 24, 2) := by decide +kernel
theorem dX12_wordsTold_7 : decode cX12_wordsTold 7 = .ok (.if_icmp .ge 30, 3) := by decide +kernel
theorem dX12_wordsTold_10 : decode cX12_wordsTold 10 = .ok (.iload_n 2, 1) := by decide +kernel
theorem dX12_wordsTold_11 : decode cX12_wordsTold 11 = .ok (.aload_n 0, 1) := by decide +kernel
theorem dX12_wordsTold_12 : decode cX12_wordsTold 12 = .ok (.getfield 59, 3) := by decide +kernel
theorem dX12_wordsTold_15 : decode cX12_wordsTold 15 = .ok (.iload_n 1, 1) := by decide +kernel
theorem dX12_wordsTold_16 : decode cX12_wordsTold 16 = .ok (.iload_n 3, 1) := by decide +kernel
theorem dX12_wordsTold_17 : decode cX12_wordsTold 17 = .ok (.iadd, 1) := by decide +kernel
theorem dX12_wordsTold_18 : decode cX12_wordsTold 18 = .ok (.laload, 1) := by decide +kernel
theorem dX12_wordsTold_19 : decode cX12_wordsTold 19 = .ok (.lconst 0, 1) := by decide +kernel
theorem dX12_wordsTold_20 : decode cX12_wordsTold 20 = .ok (.lcmp, 1) := by decide +kernel
theorem dX12_wordsTold_21 : decode cX12_wordsTold 21 = .ok (.ifCond .eq 7, 3) := by decide +kernel
theorem dX12_wordsTold_24 : decode cX12_wordsTold 24 = .ok (.iconst 1, 1) := by decide +kernel
theorem dX12_wordsTold_25 : decode cX12_wordsTold 25 = .ok (.goto 4, 3) := by decide +kernel
theorem dX12_wordsTold_28 : decode cX12_wordsTold 28 = .ok (.iconst 0, 1) := by decide +kernel
theorem dX12_wordsTold_29 : decode cX12_wordsTold 29 = .ok (.iadd, 1) := by decide +kernel
theorem dX12_wordsTold_30 : decode cX12_wordsTold 30 = .ok (.istore_n 2, 1) := by decide +kernel
theorem dX12_wordsTold_31 : decode cX12_wordsTold 31 = .ok (.iinc 3 1, 3) := by decide +kernel
theorem dX12_wordsTold_34 : decode cX12_wordsTold 34 = .ok (.goto (-30), 3) := by decide +kernel
theorem dX12_wordsTold_37 : decode cX12_wordsTold 37 = .ok (.iload_n 2, 1) := by decide +kernel
theorem dX12_wordsTold_38 : decode cX12_wordsTold 38 = .ok (.ireturn, 1) := by decide +kernel
theorem dX12_rule_0 : decode cX12_rule 0 = .ok (.aload_n 0, 1) := by decide +kernel
theorem dX12_rule_1 : decode cX12_rule 1 = .ok (.invokevirtual 272, 3) := by decide +kernel
theorem dX12_rule_4 : decode cX12_rule 4 = .ok (.ifCond .eq 13, 3) := by decide +kernel
theorem dX12_rule_7 : decode cX12_rule 7 = .ok (.iload_n 1, 1) := by decide +kernel
theorem dX12_rule_8 : decode cX12_rule 8 = .ok (.iconst 0, 1) := by decide +kernel
theorem dX12_rule_9 : decode cX12_rule 9 = .ok (.bipush 6, 2) := by decide +kernel
theorem dX12_rule_11 : decode cX12_rule 11 = .ok (.invokestatic 100, 3) := by decide +kernel
theorem dX12_rule_14 : decode cX12_rule 14 = .ok (.ifCond .ne 5, 3) := by decide +kernel
theorem dX12_rule_17 : decode cX12_rule 17 = .ok (.iconst (-1), 1) := by decide +kernel
theorem dX12_rule_18 : decode cX12_rule 18 = .ok (.ireturn, 1) := by decide +kernel
theorem dX12_rule_19 : decode cX12_rule 19 = .ok (.iload_n 1, 1) := by decide +kernel
theorem dX12_rule_20 : decode cX12_rule 20 = .ok (.tableswitch 76 0 5 #[40, 45, 50, 56, 63, 68], 40) := by decide +kernel
theorem dX12_rule_60 : decode cX12_rule 60 = .ok (.aload_n 0, 1) := by decide +kernel
theorem dX12_rule_61 : decode cX12_rule 61 = .ok (.getfield 269, 3) := by decide +kernel
theorem dX12_rule_64 : decode cX12_rule 64 = .ok (.ireturn, 1) := by decide +kernel
theorem dX12_rule_65 : decode cX12_rule 65 = .ok (.aload_n 0, 1) := by decide +kernel
theorem dX12_rule_66 : decode cX12_rule 66 = .ok (.getfield 275, 3) := by decide +kernel
theorem dX12_rule_69 : decode cX12_rule 69 = .ok (.ireturn, 1) := by decide +kernel
theorem dX12_rule_70 : decode cX12_rule 70 = .ok (.aload_n 0, 1) := by decide +kernel
theorem dX12_rule_71 : decode cX12_rule 71 = .ok (.iconst 0, 1) := by decide +kernel
theorem dX12_rule_72 : decode cX12_rule 72 = .ok (.invokevirtual 444, 3) := by decide +kernel
theorem dX12_rule_75 : decode cX12_rule 75 = .ok (.ireturn, 1) := by decide +kernel
theorem dX12_rule_76 : decode cX12_rule 76 = .ok (.aload_n 0, 1) := by decide +kernel
theorem dX12_rule_77 : decode cX12_rule 77 = .ok (.bipush 24, 2) := by decide +kernel
theorem dX12_rule_79 : decode cX12_rule 79 = .ok (.invokevirtual 444, 3) := by decide +kernel
theorem dX12_rule_82 : decode cX12_rule 82 = .ok (.ireturn, 1) := by decide +kernel
theorem dX12_rule_83 : decode cX12_rule 83 = .ok (.aload_n 0, 1) := by decide +kernel
theorem dX12_rule_84 : decode cX12_rule 84 = .ok (.invokevirtual 447, 3) := by decide +kernel
theorem dX12_rule_87 : decode cX12_rule 87 = .ok (.ireturn, 1) := by decide +kernel
theorem dX12_rule_88 : decode cX12_rule 88 = .ok (.aload_n 0, 1) := by decide +kernel
theorem dX12_rule_89 : decode cX12_rule 89 = .ok (.getfield 47, 3) := by decide +kernel
theorem dX12_rule_92 : decode cX12_rule 92 = .ok (.iconst 0, 1) := by decide +kernel
theorem dX12_rule_93 : decode cX12_rule 93 = .ok (.laload, 1) := by decide +kernel
theorem dX12_rule_94 : decode cX12_rule 94 = .ok (.l2i, 1) := by decide +kernel
theorem dX12_rule_95 : decode cX12_rule 95 = .ok (.ireturn, 1) := by decide +kernel
theorem dX12_rule_96 : decode cX12_rule 96 = .ok (.aload_n 0, 1) := by decide +kernel
theorem dX12_rule_97 : decode cX12_rule 97 = .ok (.invokevirtual 367, 3) := by decide +kernel
theorem dX12_rule_100 : decode cX12_rule 100 = .ok (.ireturn, 1) := by decide +kernel
theorem dX12_noun_0 : decode cX12_noun 0 = .ok (.aload_n 0, 1) := by decide +kernel
theorem dX12_noun_1 : decode cX12_noun 1 = .ok (.aload_n 0, 1) := by decide +kernel
theorem dX12_noun_2 : decode cX12_noun 2 = .ok (.iload_n 1, 1) := by decide +kernel
theorem dX12_noun_3 : decode cX12_noun 3 = .ok (.invokevirtual 376, 3) := by decide +kernel
theorem dX12_noun_6 : decode cX12_noun 6 = .ok (.ifCond .eq 16, 3) := by decide +kernel
theorem dX12_noun_9 : decode cX12_noun 9 = .ok (.iload_n 2, 1) := by decide +kernel
theorem dX12_noun_10 : decode cX12_noun 10 = .ok (.iconst 0, 1) := by decide +kernel
theorem dX12_noun_11 : decode cX12_noun 11 = .ok (.iconst 2, 1) := by decide +kernel
theorem dX12_noun_12 : decode cX12_noun 12 = .ok (.invokestatic 100, 3) := by decide +kernel
theorem dX12_noun_15 : decode cX12_noun 15 = .ok (.ifCond .eq 7, 3) := by decide +kernel
theorem dX12_noun_18 : decode cX12_noun 18 = .ok (.iconst 0, 1) := by decide +kernel
theorem dX12_noun_19 : decode cX12_noun 19 = .ok (.goto 4, 3) := by decide +kernel
theorem dX12_noun_22 : decode cX12_noun 22 = .ok (.iconst 1, 1) := by decide +kernel
theorem dX12_noun_23 : decode cX12_noun 23 = .ok (.putfield 89, 3) := by decide +kernel
theorem dX12_noun_26 : decode cX12_noun 26 = .ok (.aload_n 0, 1) := by decide +kernel
theorem dX12_noun_27 : decode cX12_noun 27 = .ok (.getfield 89, 3) := by decide +kernel
theorem dX12_noun_30 : decode cX12_noun 30 = .ok (.iconst 1, 1) := by decide +kernel
theorem dX12_noun_31 : decode cX12_noun 31 = .ok (.if_icmp .ne 5, 3) := by decide +kernel
theorem dX12_noun_34 : decode cX12_noun 34 = .ok (.iconst 0, 1) := by decide +kernel
theorem dX12_noun_35 : decode cX12_noun 35 = .ok (.ireturn, 1) := by decide +kernel
theorem dX12_noun_36 : decode cX12_noun 36 = .ok (.iload_n 2, 1) := by decide +kernel
theorem dX12_noun_37 : decode cX12_noun 37 = .ok (.ifCond .ne 12, 3) := by decide +kernel
theorem dX12_noun_40 : decode cX12_noun 40 = .ok (.aload_n 0, 1) := by decide +kernel
theorem dX12_noun_41 : decode cX12_noun 41 = .ok (.getfield 56, 3) := by decide +kernel
theorem dX12_noun_44 : decode cX12_noun 44 = .ok (.iload_n 1, 1) := by decide +kernel
theorem dX12_noun_45 : decode cX12_noun 45 = .ok (.iaload, 1) := by decide +kernel
theorem dX12_noun_46 : decode cX12_noun 46 = .ok (.goto 25, 3) := by decide +kernel
theorem dX12_noun_49 : decode cX12_noun 49 = .ok (.iload_n 2, 1) := by decide +kernel
theorem dX12_noun_50 : decode cX12_noun 50 = .ok (.iconst 1, 1) := by decide +kernel
theorem dX12_noun_51 : decode cX12_noun 51 = .ok (.if_icmp .ne 15, 3) := by decide +kernel
theorem dX12_noun_54 : decode cX12_noun 54 = .ok (.aload_n 0, 1) := by decide +kernel
theorem dX12_noun_55 : decode cX12_noun 55 = .ok (.getfield 53, 3) := by decide +kernel
theorem dX12_noun_58 : decode cX12_noun 58 = .ok (.iload_n 1, 1) := by decide +kernel
theorem dX12_noun_59 : decode cX12_noun 59 = .ok (.laload, 1) := by decide +kernel
theorem dX12_noun_60 : decode cX12_noun 60 = .ok (.invokestatic 304, 3) := by decide +kernel
theorem dX12_noun_63 : decode cX12_noun 63 = .ok (.goto 8, 3) := by decide +kernel
theorem dX12_noun_66 : decode cX12_noun 66 = .ok (.aload_n 0, 1) := by decide +kernel
theorem dX12_noun_67 : decode cX12_noun 67 = .ok (.iload_n 1, 1) := by decide +kernel
theorem dX12_noun_68 : decode cX12_noun 68 = .ok (.invokevirtual 395, 3) := by decide +kernel
theorem dX12_noun_71 : decode cX12_noun 71 = .ok (.ireturn, 1) := by decide +kernel
theorem dX12_letter_0 : decode cX12_letter 0 = .ok (.lload_n 0, 1) := by decide +kernel
theorem dX12_letter_1 : decode cX12_letter 1 = .ok (.invokestatic 304, 3) := by decide +kernel
theorem dX12_letter_4 : decode cX12_letter 4 = .ok (.istore_n 3, 1) := by decide +kernel
theorem dX12_letter_5 : decode cX12_letter 5 = .ok (.iload_n 2, 1) := by decide +kernel
theorem dX12_letter_6 : decode cX12_letter 6 = .ok (.iconst (-1), 1) := by decide +kernel
theorem dX12_letter_7 : decode cX12_letter 7 = .ok (.if_icmp .ne 7, 3) := by decide +kernel
theorem dX12_letter_10 : decode cX12_letter 10 = .ok (.iload_n 3, 1) := by decide +kernel
theorem dX12_letter_11 : decode cX12_letter 11 = .ok (.goto 23, 3) := by decide +kernel
theorem dX12_letter_14 : decode cX12_letter 14 = .ok (.iload_n 2, 1) := by decide +kernel
theorem dX12_letter_15 : decode cX12_letter 15 = .ok (.iconst 0, 1) := by decide +kernel
theorem dX12_letter_16 : decode cX12_letter 16 = .ok (.iload_n 3, 1) := by decide +kernel
theorem dX12_letter_17 : decode cX12_letter 17 = .ok (.iconst 1, 1) := by decide +kernel
theorem dX12_letter_18 : decode cX12_letter 18 = .ok (.isub, 1) := by decide +kernel
theorem dX12_letter_19 : decode cX12_letter 19 = .ok (.invokestatic 100, 3) := by decide +kernel
theorem dX12_letter_22 : decode cX12_letter 22 = .ok (.ifCond .eq 11, 3) := by decide +kernel
theorem dX12_letter_25 : decode cX12_letter 25 = .ok (.lload_n 0, 1) := by decide +kernel
theorem dX12_letter_26 : decode cX12_letter 26 = .ok (.iload_n 2, 1) := by decide +kernel
theorem dX12_letter_27 : decode cX12_letter 27 = .ok (.invokestatic 317, 3) := by decide +kernel
theorem dX12_letter_30 : decode cX12_letter 30 = .ok (.goto 4, 3) := by decide +kernel
theorem dX12_letter_33 : decode cX12_letter 33 = .ok (.iconst (-1), 1) := by decide +kernel
theorem dX12_letter_34 : decode cX12_letter 34 = .ok (.ireturn, 1) := by decide +kernel
theorem dX12_form_0 : decode cX12_form 0 = .ok (.aload_n 0, 1) := by decide +kernel
theorem dX12_form_1 : decode cX12_form 1 = .ok (.iload_n 1, 1) := by decide +kernel
theorem dX12_form_2 : decode cX12_form 2 = .ok (.invokevirtual 376, 3) := by decide +kernel
theorem dX12_form_5 : decode cX12_form 5 = .ok (.ifCond .eq 26, 3) := by decide +kernel
theorem dX12_form_8 : decode cX12_form 8 = .ok (.iload_n 2, 1) := by decide +kernel
theorem dX12_form_9 : decode cX12_form 9 = .ok (.iload_n 3, 1) := by decide +kernel
theorem dX12_form_10 : decode cX12_form 10 = .ok (.invokestatic 382, 3) := by decide +kernel
theorem dX12_form_13 : decode cX12_form 13 = .ok (.ifCond .eq 18, 3) := by decide +kernel
theorem dX12_form_16 : decode cX12_form 16 = .ok (.aload_n 0, 1) := by decide +kernel
theorem dX12_form_17 : decode cX12_form 17 = .ok (.iload_n 1, 1) := by decide +kernel
theorem dX12_form_18 : decode cX12_form 18 = .ok (.iload_n 2, 1) := by decide +kernel
theorem dX12_form_19 : decode cX12_form 19 = .ok (.iload_n 3, 1) := by decide +kernel
theorem dX12_form_20 : decode cX12_form 20 = .ok (.invokevirtual 351, 3) := by decide +kernel
theorem dX12_form_23 : decode cX12_form 23 = .ok (.iload 4, 2) := by decide +kernel
theorem dX12_form_25 : decode cX12_form 25 = .ok (.invokestatic 450, 3) := by decide +kernel
theorem dX12_form_28 : decode cX12_form 28 = .ok (.goto 4, 3) := by decide +kernel
theorem dX12_form_31 : decode cX12_form 31 = .ok (.iconst (-1), 1) := by decide +kernel
theorem dX12_form_32 : decode cX12_form 32 = .ok (.ireturn, 1) := by decide +kernel
theorem dX12_byDefault_0 : decode cX12_byDefault 0 = .ok (.aload_n 0, 1) := by decide +kernel
theorem dX12_byDefault_1 : decode cX12_byDefault 1 = .ok (.iload_n 1, 1) := by decide +kernel
theorem dX12_byDefault_2 : decode cX12_byDefault 2 = .ok (.invokevirtual 376, 3) := by decide +kernel
theorem dX12_byDefault_5 : decode cX12_byDefault 5 = .ok (.ifCond .eq 21, 3) := by decide +kernel
theorem dX12_byDefault_8 : decode cX12_byDefault 8 = .ok (.iload_n 2, 1) := by decide +kernel
theorem dX12_byDefault_9 : decode cX12_byDefault 9 = .ok (.iload_n 3, 1) := by decide +kernel
theorem dX12_byDefault_10 : decode cX12_byDefault 10 = .ok (.invokestatic 382, 3) := by decide +kernel
theorem dX12_byDefault_13 : decode cX12_byDefault 13 = .ok (.ifCond .eq 13, 3) := by decide +kernel
theorem dX12_byDefault_16 : decode cX12_byDefault 16 = .ok (.aload_n 0, 1) := by decide +kernel
theorem dX12_byDefault_17 : decode cX12_byDefault 17 = .ok (.iload_n 1, 1) := by decide +kernel
theorem dX12_byDefault_18 : decode cX12_byDefault 18 = .ok (.iload_n 2, 1) := by decide +kernel
theorem dX12_byDefault_19 : decode cX12_byDefault 19 = .ok (.iload_n 3, 1) := by decide +kernel
theorem dX12_byDefault_20 : decode cX12_byDefault 20 = .ok (.invokevirtual 300, 3) := by decide +kernel
theorem dX12_byDefault_23 : decode cX12_byDefault 23 = .ok (.goto 4, 3) := by decide +kernel
theorem dX12_byDefault_26 : decode cX12_byDefault 26 = .ok (.iconst (-1), 1) := by decide +kernel
theorem dX12_byDefault_27 : decode cX12_byDefault 27 = .ok (.ireturn, 1) := by decide +kernel
theorem dX12_word_0 : decode cX12_word 0 = .ok (.aload_n 0, 1) := by decide +kernel
theorem dX12_word_1 : decode cX12_word 1 = .ok (.invokevirtual 272, 3) := by decide +kernel
theorem dX12_word_4 : decode cX12_word 4 = .ok (.ifCond .eq 21, 3) := by decide +kernel
theorem dX12_word_7 : decode cX12_word 7 = .ok (.iload_n 2, 1) := by decide +kernel
theorem dX12_word_8 : decode cX12_word 8 = .ok (.iload_n 3, 1) := by decide +kernel
theorem dX12_word_9 : decode cX12_word 9 = .ok (.invokestatic 382, 3) := by decide +kernel
theorem dX12_word_12 : decode cX12_word 12 = .ok (.ifCond .eq 13, 3) := by decide +kernel
theorem dX12_word_15 : decode cX12_word 15 = .ok (.iload 4, 2) := by decide +kernel
theorem dX12_word_17 : decode cX12_word 17 = .ok (.iconst 0, 1) := by decide +kernel
theorem dX12_word_18 : decode cX12_word 18 = .ok (.iconst 2, 1) := by decide +kernel
theorem dX12_word_19 : decode cX12_word 19 = .ok (.invokestatic 100, 3) := by decide +kernel
theorem dX12_word_22 : decode cX12_word 22 = .ok (.ifCond .ne 5, 3) := by decide +kernel
theorem dX12_word_25 : decode cX12_word 25 = .ok (.iconst (-1), 1) := by decide +kernel
theorem dX12_word_26 : decode cX12_word 26 = .ok (.ireturn, 1) := by decide +kernel
theorem dX12_word_27 : decode cX12_word 27 = .ok (.aload_n 0, 1) := by decide +kernel
theorem dX12_word_28 : decode cX12_word 28 = .ok (.iload_n 1, 1) := by decide +kernel
theorem dX12_word_29 : decode cX12_word 29 = .ok (.iload_n 2, 1) := by decide +kernel
theorem dX12_word_30 : decode cX12_word 30 = .ok (.iload_n 3, 1) := by decide +kernel
theorem dX12_word_31 : decode cX12_word 31 = .ok (.iload 4, 2) := by decide +kernel
theorem dX12_word_33 : decode cX12_word 33 = .ok (.invokevirtual 347, 3) := by decide +kernel
theorem dX12_word_36 : decode cX12_word 36 = .ok (.iload 5, 2) := by decide +kernel
theorem dX12_word_38 : decode cX12_word 38 = .ok (.invokestatic 450, 3) := by decide +kernel
theorem dX12_word_41 : decode cX12_word 41 = .ok (.ireturn, 1) := by decide +kernel
theorem dX12_hole_0 : decode cX12_hole 0 = .ok (.aload_n 0, 1) := by decide +kernel
theorem dX12_hole_1 : decode cX12_hole 1 = .ok (.iload_n 1, 1) := by decide +kernel
theorem dX12_hole_2 : decode cX12_hole 2 = .ok (.invokevirtual 373, 3) := by decide +kernel
theorem dX12_hole_5 : decode cX12_hole 5 = .ok (.ifCond .eq 21, 3) := by decide +kernel
theorem dX12_hole_8 : decode cX12_hole 8 = .ok (.iload_n 2, 1) := by decide +kernel
theorem dX12_hole_9 : decode cX12_hole 9 = .ok (.iconst 0, 1) := by decide +kernel
theorem dX12_hole_10 : decode cX12_hole 10 = .ok (.iconst 2, 1) := by decide +kernel
theorem dX12_hole_11 : decode cX12_hole 11 = .ok (.invokestatic 100, 3) := by decide +kernel
theorem dX12_hole_14 : decode cX12_hole 14 = .ok (.ifCond .eq 12, 3) := by decide +kernel
theorem dX12_hole_17 : decode cX12_hole 17 = .ok (.aload_n 0, 1) := by decide +kernel
theorem dX12_hole_18 : decode cX12_hole 18 = .ok (.iload_n 1, 1) := by decide +kernel
theorem dX12_hole_19 : decode cX12_hole 19 = .ok (.invokevirtual 330, 3) := by decide +kernel
theorem dX12_hole_22 : decode cX12_hole 22 = .ok (.iconst (-1), 1) := by decide +kernel
theorem dX12_hole_23 : decode cX12_hole 23 = .ok (.if_icmp .ne 5, 3) := by decide +kernel
theorem dX12_hole_26 : decode cX12_hole 26 = .ok (.iconst (-1), 1) := by decide +kernel
theorem dX12_hole_27 : decode cX12_hole 27 = .ok (.ireturn, 1) := by decide +kernel
theorem dX12_hole_28 : decode cX12_hole 28 = .ok (.iload_n 2, 1) := by decide +kernel
theorem dX12_hole_29 : decode cX12_hole 29 = .ok (.ifCond .ne 11, 3) := by decide +kernel
theorem dX12_hole_32 : decode cX12_hole 32 = .ok (.aload_n 0, 1) := by decide +kernel
theorem dX12_hole_33 : decode cX12_hole 33 = .ok (.iload_n 1, 1) := by decide +kernel
theorem dX12_hole_34 : decode cX12_hole 34 = .ok (.invokevirtual 330, 3) := by decide +kernel
theorem dX12_hole_37 : decode cX12_hole 37 = .ok (.goto 21, 3) := by decide +kernel
theorem dX12_hole_40 : decode cX12_hole 40 = .ok (.iload_n 2, 1) := by decide +kernel
theorem dX12_hole_41 : decode cX12_hole 41 = .ok (.iconst 1, 1) := by decide +kernel
theorem dX12_hole_42 : decode cX12_hole 42 = .ok (.if_icmp .ne 11, 3) := by decide +kernel
theorem dX12_hole_45 : decode cX12_hole 45 = .ok (.aload_n 0, 1) := by decide +kernel
theorem dX12_hole_46 : decode cX12_hole 46 = .ok (.iload_n 1, 1) := by decide +kernel
theorem dX12_hole_47 : decode cX12_hole 47 = .ok (.invokevirtual 278, 3) := by decide +kernel
theorem dX12_hole_50 : decode cX12_hole 50 = .ok (.goto 8, 3) := by decide +kernel
theorem dX12_hole_53 : decode cX12_hole 53 = .ok (.aload_n 0, 1) := by decide +kernel
theorem dX12_hole_54 : decode cX12_hole 54 = .ok (.iload_n 1, 1) := by decide +kernel
theorem dX12_hole_55 : decode cX12_hole 55 = .ok (.invokevirtual 333, 3) := by decide +kernel
theorem dX12_hole_58 : decode cX12_hole 58 = .ok (.ireturn, 1) := by decide +kernel
theorem dX12_askedBy_0 : decode cX12_askedBy 0 = .ok (.iconst 0, 1) := by decide +kernel
theorem dX12_askedBy_1 : decode cX12_askedBy 1 = .ok (.istore_n 2, 1) := by decide +kernel
theorem dX12_askedBy_2 : decode cX12_askedBy 2 = .ok (.iconst 0, 1) := by decide +kernel
theorem dX12_askedBy_3 : decode cX12_askedBy 3 = .ok (.istore_n 3, 1) := by decide +kernel
theorem dX12_askedBy_4 : decode cX12_askedBy 4 = .ok (.iload_n 3, 1) := by decide +kernel
theorem dX12_askedBy_5 : decode cX12_askedBy 5 = .ok (.aload_n 0, 1) := by decide +kernel
theorem dX12_askedBy_6 : decode cX12_askedBy 6 = .ok (.getfield 62, 3) := by decide +kernel
theorem dX12_askedBy_9 : decode cX12_askedBy 9 = .ok (.iload_n 1, 1) := by decide +kernel
theorem dX12_askedBy_10 : decode cX12_askedBy 10 = .ok (.iaload, 1) := by decide +kernel
theorem dX12_askedBy_11 : decode cX12_askedBy 11 = .ok (.if_icmp .ge 76, 3) := by decide +kernel
theorem dX12_askedBy_14 : decode cX12_askedBy 14 = .ok (.iconst 3, 1) := by decide +kernel
theorem dX12_askedBy_15 : decode cX12_askedBy 15 = .ok (.bipush 8, 2) := by decide +kernel
