theorem dX10_init_0 : decode cX10_init 0 = .ok (.aload_n 0, 1) := by decide +kernel
theorem dX10_init_1 : decode cX10_init 1 = .ok (.invokespecial 3, 3) := by decide +kernel
theorem dX10_init_4 : decode cX10_init 4 = .ok (.aload_n 0, 1) := by decide +kernel
theorem dX10_init_5 : decode cX10_init 5 = .ok (.aload_n 1, 1) := by decide +kernel
theorem dX10_init_6 : decode cX10_init 6 = .ok (.putfield 9, 3) := by decide +kernel
theorem dX10_init_9 : decode cX10_init 9 = .ok (.aload_n 0, 1) := by decide +kernel
theorem dX10_init_10 : decode cX10_init 10 = .ok (.aload_n 2, 1) := by decide +kernel
theorem dX10_init_11 : decode cX10_init 11 = .ok (.putfield 15, 3) := by decide +kernel
theorem dX10_init_14 : decode cX10_init 14 = .ok (.aload_n 0, 1) := by decide +kernel
theorem dX10_init_15 : decode cX10_init 15 = .ok (.sipush 144, 3) := by decide +kernel
theorem dX10_init_18 : decode cX10_init 18 = .ok (.newarray .char, 2) := by decide +kernel
theorem dX10_init_20 : decode cX10_init 20 = .ok (.putfield 19, 3) := by decide +kernel
theorem dX10_init_23 : decode cX10_init 23 = .ok (.return_, 1) := by decide +kernel
theorem dX10_formOf_0 : decode cX10_formOf 0 = .ok (.aload_n 0, 1) := by decide +kernel
theorem dX10_formOf_1 : decode cX10_formOf 1 = .ok (.getfield 15, 3) := by decide +kernel
theorem dX10_formOf_4 : decode cX10_formOf 4 = .ok (.iload_n 1, 1) := by decide +kernel
theorem dX10_formOf_5 : decode cX10_formOf 5 = .ok (.iload_n 2, 1) := by decide +kernel
theorem dX10_formOf_6 : decode cX10_formOf 6 = .ok (.iload_n 3, 1) := by decide +kernel
theorem dX10_formOf_7 : decode cX10_formOf 7 = .ok (.invokevirtual 23, 3) := by decide +kernel
theorem dX10_formOf_10 : decode cX10_formOf 10 = .ok (.tableswitch 90 0 3 #[30, 45, 60, 75], 30) := by decide +kernel
theorem dX10_formOf_40 : decode cX10_formOf 40 = .ok (.aload_n 0, 1) := by decide +kernel
theorem dX10_formOf_41 : decode cX10_formOf 41 = .ok (.getfield 15, 3) := by decide +kernel
theorem dX10_formOf_44 : decode cX10_formOf 44 = .ok (.getfield 29, 3) := by decide +kernel
theorem dX10_formOf_47 : decode cX10_formOf 47 = .ok (.iload_n 1, 1) := by decide +kernel
theorem dX10_formOf_48 : decode cX10_formOf 48 = .ok (.iload_n 2, 1) := by decide +kernel
theorem dX10_formOf_49 : decode cX10_formOf 49 = .ok (.iload_n 3, 1) := by decide +kernel
theorem dX10_formOf_50 : decode cX10_formOf 50 = .ok (.invokestatic 33, 3) := by decide +kernel
theorem dX10_formOf_53 : decode cX10_formOf 53 = .ok (.laload, 1) := by decide +kernel
theorem dX10_formOf_54 : decode cX10_formOf 54 = .ok (.lreturn, 1) := by decide +kernel
theorem dX10_formOf_55 : decode cX10_formOf 55 = .ok (.aload_n 0, 1) := by decide +kernel
theorem dX10_formOf_56 : decode cX10_formOf 56 = .ok (.getfield 15, 3) := by decide +kernel
theorem dX10_formOf_59 : decode cX10_formOf 59 = .ok (.getfield 29, 3) := by decide +kernel
theorem dX10_formOf_62 : decode cX10_formOf 62 = .ok (.iload_n 1, 1) := by decide +kernel
theorem dX10_formOf_63 : decode cX10_formOf 63 = .ok (.iconst 0, 1) := by decide +kernel
theorem dX10_formOf_64 : decode cX10_formOf 64 = .ok (.iload_n 3, 1) := by decide +kernel
theorem dX10_formOf_65 : decode cX10_formOf 65 = .ok (.invokestatic 33, 3) := by decide +kernel
theorem dX10_formOf_68 : decode cX10_formOf 68 = .ok (.laload, 1) := by decide +kernel
theorem dX10_formOf_69 : decode cX10_formOf 69 = .ok (.lreturn, 1) := by decide +kernel
theorem dX10_formOf_70 : decode cX10_formOf 70 = .ok (.aload_n 0, 1) := by decide +kernel
theorem dX10_formOf_71 : decode cX10_formOf 71 = .ok (.getfield 15, 3) := by decide +kernel
theorem dX10_formOf_74 : decode cX10_formOf 74 = .ok (.getfield 29, 3) := by decide +kernel
theorem dX10_formOf_77 : decode cX10_formOf 77 = .ok (.iload_n 1, 1) := by decide +kernel
theorem dX10_formOf_78 : decode cX10_formOf 78 = .ok (.iload_n 2, 1) := by decide +kernel
theorem dX10_formOf_79 : decode cX10_formOf 79 = .ok (.iconst 0, 1) := by decide +kernel
theorem dX10_formOf_80 : decode cX10_formOf 80 = .ok (.invokestatic 33, 3) := by decide +kernel
theorem dX10_formOf_83 : decode cX10_formOf 83 = .ok (.laload, 1) := by decide +kernel
theorem dX10_formOf_84 : decode cX10_formOf 84 = .ok (.lreturn, 1) := by decide +kernel
theorem dX10_formOf_85 : decode cX10_formOf 85 = .ok (.aload_n 0, 1) := by decide +kernel
theorem dX10_formOf_86 : decode cX10_formOf 86 = .ok (.getfield 15, 3) := by decide +kernel
theorem dX10_formOf_89 : decode cX10_formOf 89 = .ok (.getfield 29, 3) := by decide +kernel
theorem dX10_formOf_92 : decode cX10_formOf 92 = .ok (.iload_n 1, 1) := by decide +kernel
theorem dX10_formOf_93 : decode cX10_formOf 93 = .ok (.iconst 0, 1) := by decide +kernel
theorem dX10_formOf_94 : decode cX10_formOf 94 = .ok (.iconst 0, 1) := by decide +kernel
theorem dX10_formOf_95 : decode cX10_formOf 95 = .ok (.invokestatic 33, 3) := by decide +kernel
theorem dX10_formOf_98 : decode cX10_formOf 98 = .ok (.laload, 1) := by decide +kernel
theorem dX10_formOf_99 : decode cX10_formOf 99 = .ok (.lreturn, 1) := by decide +kernel
theorem dX10_formOf_100 : decode cX10_formOf 100 = .ok (.aload_n 0, 1) := by decide +kernel
theorem dX10_formOf_101 : decode cX10_formOf 101 = .ok (.getfield 9, 3) := by decide +kernel
theorem dX10_formOf_104 : decode cX10_formOf 104 = .ok (.getfield 36, 3) := by decide +kernel
theorem dX10_formOf_107 : decode cX10_formOf 107 = .ok (.iload_n 1, 1) := by decide +kernel
theorem dX10_formOf_108 : decode cX10_formOf 108 = .ok (.laload, 1) := by decide +kernel
theorem dX10_formOf_109 : decode cX10_formOf 109 = .ok (.lreturn, 1) := by decide +kernel
theorem dX10_formAt_0 : decode cX10_formAt 0 = .ok (.aload_n 0, 1) := by decide +kernel
theorem dX10_formAt_1 : decode cX10_formAt 1 = .ok (.iload_n 1, 1) := by decide +kernel
theorem dX10_formAt_2 : decode cX10_formAt 2 = .ok (.iload_n 2, 1) := by decide +kernel
theorem dX10_formAt_3 : decode cX10_formAt 3 = .ok (.iconst 2, 1) := by decide +kernel
theorem dX10_formAt_4 : decode cX10_formAt 4 = .ok (.idiv, 1) := by decide +kernel
theorem dX10_formAt_5 : decode cX10_formAt 5 = .ok (.iload_n 2, 1) := by decide +kernel
theorem dX10_formAt_6 : decode cX10_formAt 6 = .ok (.iconst 2, 1) := by decide +kernel
theorem dX10_formAt_7 : decode cX10_formAt 7 = .ok (.irem, 1) := by decide +kernel
theorem dX10_formAt_8 : decode cX10_formAt 8 = .ok (.invokevirtual 41, 3) := by decide +kernel
theorem dX10_formAt_11 : decode cX10_formAt 11 = .ok (.lreturn, 1) := by decide +kernel
theorem dX10_tellableBits_0 : decode cX10_tellableBits 0 = .ok (.iconst 0, 1) := by decide +kernel
theorem dX10_tellableBits_1 : decode cX10_tellableBits 1 = .ok (.istore_n 1, 1) := by decide +kernel
theorem dX10_tellableBits_2 : decode cX10_tellableBits 2 = .ok (.iconst 0, 1) := by decide +kernel
theorem dX10_tellableBits_3 : decode cX10_tellableBits 3 = .ok (.istore_n 2, 1) := by decide +kernel
theorem dX10_tellableBits_4 : decode cX10_tellableBits 4 = .ok (.iload_n 2, 1) := by decide +kernel
theorem dX10_tellableBits_5 : decode cX10_tellableBits 5 = .ok (.aload_n 0, 1) := by decide +kernel
theorem dX10_tellableBits_6 : decode cX10_tellableBits 6 = .ok (.getfield 9, 3) := by decide +kernel
theorem dX10_tellableBits_9 : decode cX10_tellableBits 9 = .ok (.getfield 45, 3) := by decide +kernel
theorem dX10_tellableBits_12 : decode cX10_tellableBits 12 = .ok (.if_icmp .ge 23, 3) := by decide +kernel
theorem dX10_tellableBits_15 : decode cX10_tellableBits 15 = .ok (.aload_n 0, 1) := by decide +kernel
theorem dX10_tellableBits_16 : decode cX10_tellableBits 16 = .ok (.iload_n 2, 1) := by decide +kernel
theorem dX10_tellableBits_17 : decode cX10_tellableBits 17 = .ok (.invokevirtual 49, 3) := by decide +kernel
theorem dX10_tellableBits_20 : decode cX10_tellableBits 20 = .ok (.ifCond .eq 9, 3) := by decide +kernel
theorem dX10_tellableBits_23 : decode cX10_tellableBits 23 = .ok (.iload_n 1, 1) := by decide +kernel
theorem dX10_tellableBits_24 : decode cX10_tellableBits 24 = .ok (.iconst 1, 1) := by decide +kernel
theorem dX10_tellableBits_25 : decode cX10_tellableBits 25 = .ok (.iload_n 2, 1) := by decide +kernel
theorem dX10_tellableBits_26 : decode cX10_tellableBits 26 = .ok (.ishl, 1) := by decide +kernel
theorem dX10_tellableBits_27 : decode cX10_tellableBits 27 = .ok (.ior, 1) := by decide +kernel
theorem dX10_tellableBits_28 : decode cX10_tellableBits 28 = .ok (.istore_n 1, 1) := by decide +kernel
theorem dX10_tellableBits_29 : decode cX10_tellableBits 29 = .ok (.iinc 2 1, 3) := by decide +kernel
theorem dX10_tellableBits_32 : decode cX10_tellableBits 32 = .ok (.goto (-28), 3) := by decide +kernel
theorem dX10_tellableBits_35 : decode cX10_tellableBits 35 = .ok (.iload_n 1, 1) := by decide +kernel
theorem dX10_tellableBits_36 : decode cX10_tellableBits 36 = .ok (.ireturn, 1) := by decide +kernel
theorem dX10_canTell_0 : decode cX10_canTell 0 = .ok (.iload_n 1, 1) := by decide +kernel
theorem dX10_canTell_1 : decode cX10_canTell 1 = .ok (.bipush 8, 2) := by decide +kernel
theorem dX10_canTell_3 : decode cX10_canTell 3 = .ok (.imul, 1) := by decide +kernel
theorem dX10_canTell_4 : decode cX10_canTell 4 = .ok (.istore_n 2, 1) := by decide +kernel
theorem dX10_canTell_5 : decode cX10_canTell 5 = .ok (.iconst 0, 1) := by decide +kernel
theorem dX10_canTell_6 : decode cX10_canTell 6 = .ok (.istore_n 3, 1) := by decide +kernel
theorem dX10_canTell_7 : decode cX10_canTell 7 = .ok (.iload_n 3, 1) := by decide +kernel
theorem dX10_canTell_8 : decode cX10_canTell 8 = .ok (.aload_n 0, 1) := by decide +kernel
theorem dX10_canTell_9 : decode cX10_canTell 9 = .ok (.getfield 9, 3) := by decide +kernel
theorem dX10_canTell_12 : decode cX10_canTell 12 = .ok (.getfield 53, 3) := by decide +kernel
theorem dX10_canTell_15 : decode cX10_canTell 15 = .ok (.iload_n 1, 1) := by decide +kernel
theorem dX10_canTell_16 : decode cX10_canTell 16 = .ok (.iaload, 1) := by decide +kernel
theorem dX10_canTell_17 : decode cX10_canTell 17 = .ok (.if_icmp .ge 26, 3) := by decide +kernel
theorem dX10_canTell_20 : decode cX10_canTell 20 = .ok (.aload_n 0, 1) := by decide +kernel
theorem dX10_canTell_21 : decode cX10_canTell 21 = .ok (.iload_n 2, 1) := by decide +kernel
theorem dX10_canTell_22 : decode cX10_canTell 22 = .ok (.iload_n 3, 1) := by decide +kernel
theorem dX10_canTell_23 : decode cX10_canTell 23 = .ok (.iadd, 1) := by decide +kernel
theorem dX10_canTell_24 : decode cX10_canTell 24 = .ok (.invokevirtual 57, 3) := by decide +kernel
theorem dX10_canTell_27 : decode cX10_canTell 27 = .ok (.ifCond .ne 10, 3) := by decide +kernel
theorem dX10_canTell_30 : decode cX10_canTell 30 = .ok (.aload_n 0, 1) := by decide +kernel
theorem dX10_canTell_31 : decode cX10_canTell 31 = .ok (.iload_n 3, 1) := by decide +kernel
theorem dX10_canTell_32 : decode cX10_canTell 32 = .ok (.putfield 60, 3) := by decide +kernel
theorem dX10_canTell_35 : decode cX10_canTell 35 = .ok (.iconst 0, 1) := by decide +kernel
theorem dX10_canTell_36 : decode cX10_canTell 36 = .ok (.ireturn, 1) := by decide +kernel
theorem dX10_canTell_37 : decode cX10_canTell 37 = .ok (.iinc 3 1, 3) := by decide +kernel
theorem dX10_canTell_40 : decode cX10_canTell 40 = .ok (.goto (-33), 3) := by decide +kernel
theorem dX10_canTell_43 : decode cX10_canTell 43 = .ok (.iconst 1, 1) := by decide +kernel
theorem dX10_canTell_44 : decode cX10_canTell 44 = .ok (.ireturn, 1) := by decide +kernel
theorem dX10_refuse_0 : decode cX10_refuse 0 = .ok (.aload_n 0, 1) := by decide +kernel
theorem dX10_refuse_1 : decode cX10_refuse 1 = .ok (.iload_n 1, 1) := by decide +kernel
theorem dX10_refuse_2 : decode cX10_refuse 2 = .ok (.putfield 63, 3) := by decide +kernel
theorem dX10_refuse_5 : decode cX10_refuse 5 = .ok (.aload_n 0, 1) := by decide +kernel
theorem dX10_refuse_6 : decode cX10_refuse 6 = .ok (.iload_n 2, 1) := by decide +kernel
theorem dX10_refuse_7 : decode cX10_refuse 7 = .ok (.putfield 66, 3) := by decide +kernel
theorem dX10_refuse_10 : decode cX10_refuse 10 = .ok (.iconst 0, 1) := by decide +kernel
theorem dX10_refuse_11 : decode cX10_refuse 11 = .ok (.ireturn, 1) := by decide +kernel
theorem dX10_canTellItem_0 : decode cX10_canTellItem 0 = .ok (.aload_n 0, 1) := by decide +kernel
theorem dX10_canTellItem_1 : decode cX10_canTellItem 1 = .ok (.getfield 9, 3) := by decide +kernel
theorem dX10_canTellItem_4 : decode cX10_canTellItem 4 = .ok (.getfield 69, 3) := by decide +kernel
theorem dX10_canTellItem_7 : decode cX10_canTellItem 7 = .ok (.iload_n 1, 1) := by decide +kernel
theorem dX10_canTellItem_8 : decode cX10_canTellItem 8 = .ok (.caload, 1) := by decide +kernel
theorem dX10_canTellItem_9 : decode cX10_canTellItem 9 = .ok (.istore_n 2, 1) := by decide +kernel
theorem dX10_canTellItem_10 : decode cX10_canTellItem 10 = .ok (.iload_n 2, 1) := by decide +kernel
theorem dX10_canTellItem_11 : decode cX10_canTellItem 11 = .ok (.bipush 119, 2) := by decide +kernel
theorem dX10_canTellItem_13 : decode cX10_canTellItem 13 = .ok (.if_icmp .ne 5, 3) := by decide +kernel
theorem dX10_canTellItem_16 : decode cX10_canTellItem 16 = .ok (.iconst 1, 1) := by decide +kernel
theorem dX10_canTellItem_17 : decode cX10_canTellItem 17 = .ok (.ireturn, 1) := by decide +kernel
theorem dX10_canTellItem_18 : decode cX10_canTellItem 18 = .ok (.aload_n 0, 1) := by decide +kernel
theorem dX10_canTellItem_19 : decode cX10_canTellItem 19 = .ok (.getfield 9, 3) := by decide +kernel
theorem dX10_canTellItem_22 : decode cX10_canTellItem 22 = .ok (.getfield 72, 3) := by decide +kernel
theorem dX10_canTellItem_25 : decode cX10_canTellItem 25 = .ok (.iload_n 1, 1) := by decide +kernel
theorem dX10_canTellItem_26 : decode cX10_canTellItem 26 = .ok (.iaload, 1) := by decide +kernel
theorem dX10_canTellItem_27 : decode cX10_canTellItem 27 = .ok (.istore_n 3, 1) := by decide +kernel
theorem dX10_canTellItem_28 : decode cX10_canTellItem 28 = .ok (.aload_n 0, 1) := by decide +kernel
theorem dX10_canTellItem_29 : decode cX10_canTellItem 29 = .ok (.getfield 15, 3) := by decide +kernel
theorem dX10_canTellItem_32 : decode cX10_canTellItem 32 = .ok (.iload_n 3, 1) := by decide +kernel
theorem dX10_canTellItem_33 : decode cX10_canTellItem 33 = .ok (.invokevirtual 75, 3) := by decide +kernel
theorem dX10_canTellItem_36 : decode cX10_canTellItem 36 = .ok (.ifCond .eq 10, 3) := by decide +kernel
theorem dX10_canTellItem_39 : decode cX10_canTellItem 39 = .ok (.aload_n 0, 1) := by decide +kernel
theorem dX10_canTellItem_40 : decode cX10_canTellItem 40 = .ok (.iload_n 3, 1) := by decide +kernel
theorem dX10_canTellItem_41 : decode cX10_canTellItem 41 = .ok (.iconst 0, 1) := by decide +kernel
theorem dX10_canTellItem_42 : decode cX10_canTellItem 42 = .ok (.invokevirtual 78, 3) := by decide +kernel
theorem dX10_canTellItem_45 : decode cX10_canTellItem 45 = .ok (.ireturn, 1) := by decide +kernel
theorem dX10_canTellItem_46 : decode cX10_canTellItem 46 = .ok (.iload_n 2, 1) := by decide +kernel
theorem dX10_canTellItem_47 : decode cX10_canTellItem 47 = .ok (.bipush 61, 2) := by decide +kernel
theorem dX10_canTellItem_49 : decode cX10_canTellItem 49 = .ok (.if_icmp .eq 9, 3) := by decide +kernel
theorem dX10_canTellItem_52 : decode cX10_canTellItem 52 = .ok (.iload_n 2, 1) := by decide +kernel
theorem dX10_canTellItem_53 : decode cX10_canTellItem 53 = .ok (.bipush 33, 2) := by decide +kernel
theorem dX10_canTellItem_55 : decode cX10_canTellItem 55 = .ok (.if_icmp .ne 19, 3) := by decide +kernel
theorem dX10_canTellItem_58 : decode cX10_canTellItem 58 = .ok (.aload_n 0, 1) := by decide +kernel
theorem dX10_canTellItem_59 : decode cX10_canTellItem 59 = .ok (.iload_n 2, 1) := by decide +kernel
theorem dX10_canTellItem_60 : decode cX10_canTellItem 60 = .ok (.iload_n 3, 1) := by decide +kernel
theorem dX10_canTellItem_61 : decode cX10_canTellItem 61 = .ok (.aload_n 0, 1) := by decide +kernel
theorem dX10_canTellItem_62 : decode cX10_canTellItem 62 = .ok (.getfield 9, 3) := by decide +kernel
theorem dX10_canTellItem_65 : decode cX10_canTellItem 65 = .ok (.getfield 82, 3) := by decide +kernel
theorem dX10_canTellItem_68 : decode cX10_canTellItem 68 = .ok (.iload_n 1, 1) := by decide +kernel
theorem dX10_canTellItem_69 : decode cX10_canTellItem 69 = .ok (.iaload, 1) := by decide +kernel
theorem dX10_canTellItem_70 : decode cX10_canTellItem 70 = .ok (.invokevirtual 85, 3) := by decide +kernel
theorem dX10_canTellItem_73 : decode cX10_canTellItem 73 = .ok (.ireturn, 1) := by decide +kernel
theorem dX10_canTellItem_74 : decode cX10_canTellItem 74 = .ok (.iload_n 2, 1) := by decide +kernel
theorem dX10_canTellItem_75 : decode cX10_canTellItem 75 = .ok (.bipush 36, 2) := by decide +kernel
theorem dX10_canTellItem_77 : decode cX10_canTellItem 77 = .ok (.if_icmp .eq 21, 3) := by decide +kernel
theorem dX10_canTellItem_80 : decode cX10_canTellItem 80 = .ok (.aload_n 0, 1) := by decide +kernel
theorem dX10_canTellItem_81 : decode cX10_canTellItem 81 = .ok (.getfield 15, 3) := by decide +kernel
theorem dX10_canTellItem_84 : decode cX10_canTellItem 84 = .ok (.invokevirtual 89, 3) := by decide +kernel
theorem dX10_canTellItem_87 : decode cX10_canTellItem 87 = .ok (.ifCond .eq 11, 3) := by decide +kernel
theorem dX10_canTellItem_90 : decode cX10_canTellItem 90 = .ok (.aload_n 0, 1) := by decide +kernel
theorem dX10_canTellItem_91 : decode cX10_canTellItem 91 = .ok (.iload_n 1, 1) := by decide +kernel
theorem dX10_canTellItem_92 : decode cX10_canTellItem 92 = .ok (.invokevirtual 93, 3) := by decide +kernel
theorem dX10_canTellItem_95 : decode cX10_canTellItem 95 = .ok (.ifCond .eq 7, 3) := by decide +kernel
theorem dX10_canTellItem_98 : decode cX10_canTellItem 98 = .ok (.iconst 1, 1) := by decide +kernel
theorem dX10_canTellItem_99 : decode cX10_canTellItem 99 = .ok (.goto 4, 3) := by decide +kernel
theorem dX10_canTellItem_102 : decode cX10_canTellItem 102 = .ok (.iconst 0, 1) := by decide +kernel
theorem dX10_canTellItem_103 : decode cX10_canTellItem 103 = .ok (.ireturn, 1) := by decide +kernel
theorem dX10_agree_0 : decode cX10_agree 0 = .ok (.aload_n 0, 1) := by decide +kernel
theorem dX10_agree_1 : decode cX10_agree 1 = .ok (.getfield 15, 3) := by decide +kernel
theorem dX10_agree_4 : decode cX10_agree 4 = .ok (.iload_n 3, 1) := by decide +kernel
theorem dX10_agree_5 : decode cX10_agree 5 = .ok (.invokevirtual 75, 3) := by decide +kernel
theorem dX10_agree_8 : decode cX10_agree 8 = .ok (.ifCond .eq 10, 3) := by decide +kernel
theorem dX10_agree_11 : decode cX10_agree 11 = .ok (.aload_n 0, 1) := by decide +kernel
theorem dX10_agree_12 : decode cX10_agree 12 = .ok (.iload_n 3, 1) := by decide +kernel
theorem dX10_agree_13 : decode cX10_agree 13 = .ok (.iconst 0, 1) := by decide +kernel
theorem dX10_agree_14 : decode cX10_agree 14 = .ok (.invokevirtual 78, 3) := by decide +kernel
theorem dX10_agree_17 : decode cX10_agree 17 = .ok (.ireturn, 1) := by decide +kernel
theorem dX10_agree_18 : decode cX10_agree 18 = .ok (.iload_n 1, 1) := by decide +kernel
theorem dX10_agree_19 : decode cX10_agree 19 = .ok (.bipush 61, 2) := by decide +kernel
theorem dX10_agree_21 : decode cX10_agree 21 = .ok (.if_icmp .ne 37, 3) := by decide +kernel
theorem dX10_agree_24 : decode cX10_agree 24 = .ok (.aload_n 0, 1) := by decide +kernel
theorem dX10_agree_25 : decode cX10_agree 25 = .ok (.getfield 15, 3) := by decide +kernel
theorem dX10_agree_28 : decode cX10_agree 28 = .ok (.iload_n 2, 1) := by decide +kernel
theorem dX10_agree_29 : decode cX10_agree 29 = .ok (.invokevirtual 96, 3) := by decide +kernel
theorem dX10_agree_32 : decode cX10_agree 32 = .ok (.aload_n 0, 1) := by decide +kernel
theorem dX10_agree_33 : decode cX10_agree 33 = .ok (.getfield 15, 3) := by decide +kernel
theorem dX10_agree_36 : decode cX10_agree 36 = .ok (.iload_n 3, 1) := by decide +kernel
theorem dX10_agree_37 : decode cX10_agree 37 = .ok (.invokevirtual 96, 3) := by decide +kernel
theorem dX10_agree_40 : decode cX10_agree 40 = .ok (.if_icmp .eq 12, 3) := by decide +kernel
theorem dX10_agree_43 : decode cX10_agree 43 = .ok (.aload_n 0, 1) := by decide +kernel
theorem dX10_agree_44 : decode cX10_agree 44 = .ok (.iload_n 3, 1) := by decide +kernel
theorem dX10_agree_45 : decode cX10_agree 45 = .ok (.iconst 2, 1) := by decide +kernel
theorem dX10_agree_46 : decode cX10_agree 46 = .ok (.invokevirtual 78, 3) := by decide +kernel
theorem dX10_agree_49 : decode cX10_agree 49 = .ok (.ifCond .eq 7, 3) := by decide +kernel
theorem dX10_agree_52 : decode cX10_agree 52 = .ok (.iconst 1, 1) := by decide +kernel
theorem dX10_agree_53 : decode cX10_agree 53 = .ok (.goto 4, 3) := by decide +kernel
theorem dX10_agree_56 : decode cX10_agree 56 = .ok (.iconst 0, 1) := by decide +kernel
theorem dX10_agree_57 : decode cX10_agree 57 = .ok (.ireturn, 1) := by decide +kernel
theorem dX10_agree_58 : decode cX10_agree 58 = .ok (.aload_n 0, 1) := by decide +kernel
theorem dX10_agree_59 : decode cX10_agree 59 = .ok (.getfield 9, 3) := by decide +kernel
theorem dX10_agree_62 : decode cX10_agree 62 = .ok (.getfield 100, 3) := by decide +kernel
theorem dX10_agree_65 : decode cX10_agree 65 = .ok (.aload_n 0, 1) := by decide +kernel
theorem dX10_agree_66 : decode cX10_agree 66 = .ok (.getfield 15, 3) := by decide +kernel
theorem dX10_agree_69 : decode cX10_agree 69 = .ok (.iload_n 2, 1) := by decide +kernel
theorem dX10_agree_70 : decode cX10_agree 70 = .ok (.invokevirtual 103, 3) := by decide +kernel
theorem dX10_agree_73 : decode cX10_agree 73 = .ok (.iaload, 1) := by decide +kernel
theorem dX10_agree_74 : decode cX10_agree 74 = .ok (.istore 4, 2) := by decide +kernel
theorem dX10_agree_76 : decode cX10_agree 76 = .ok (.aload_n 0, 1) := by decide +kernel
theorem dX10_agree_77 : decode cX10_agree 77 = .ok (.getfield 9, 3) := by decide +kernel
theorem dX10_agree_80 : decode cX10_agree 80 = .ok (.getfield 100, 3) := by decide +kernel
theorem dX10_agree_83 : decode cX10_agree 83 = .ok (.aload_n 0, 1) := by decide +kernel
theorem dX10_agree_84 : decode cX10_agree 84 = .ok (.getfield 15, 3) := by decide +kernel
theorem dX10_agree_87 : decode cX10_agree 87 = .ok (.iload_n 3, 1) := by decide +kernel
theorem dX10_agree_88 : decode cX10_agree 88 = .ok (.invokevirtual 103, 3) := by decide +kernel
theorem dX10_agree_91 : decode cX10_agree 91 = .ok (.iaload, 1) := by decide +kernel
theorem dX10_agree_92 : decode cX10_agree 92 = .ok (.istore 5, 2) := by decide +kernel
theorem dX10_agree_94 : decode cX10_agree 94 = .ok (.iload 4, 2) := by decide +kernel
theorem dX10_agree_96 : decode cX10_agree 96 = .ok (.iload 5, 2) := by decide +kernel
theorem dX10_agree_98 : decode cX10_agree 98 = .ok (.if_icmp .eq 12, 3) := by decide +kernel
theorem dX10_agree_101 : decode cX10_agree 101 = .ok (.aload_n 0, 1) := by decide +kernel
theorem dX10_agree_102 : decode cX10_agree 102 = .ok (.iload_n 3, 1) := by decide +kernel
theorem dX10_agree_103 : decode cX10_agree 103 = .ok (.iconst 3, 1) := by decide +kernel
theorem dX10_agree_104 : decode cX10_agree 104 = .ok (.invokevirtual 78, 3) := by decide +kernel
theorem dX10_agree_107 : decode cX10_agree 107 = .ok (.ifCond .eq 7, 3) := by decide +kernel
theorem dX10_agree_110 : decode cX10_agree 110 = .ok (.iconst 1, 1) := by decide +kernel
theorem dX10_agree_111 : decode cX10_agree 111 = .ok (.goto 4, 3) := by decide +kernel
theorem dX10_agree_114 : decode cX10_agree 114 = .ok (.iconst 0, 1) := by decide +kernel
theorem dX10_agree_115 : decode cX10_agree 115 = .ok (.ireturn, 1) := by decide +kernel
theorem dX10_isAllTold_0 : decode cX10_isAllTold 0 = .ok (.aload_n 0, 1) := by decide +kernel
theorem dX10_isAllTold_1 : decode cX10_isAllTold 1 = .ok (.getfield 9, 3) := by decide +kernel
theorem dX10_isAllTold_4 : decode cX10_isAllTold 4 = .ok (.getfield 69, 3) := by decide +kernel
theorem dX10_isAllTold_7 : decode cX10_isAllTold 7 = .ok (.iload_n 1, 1) := by decide +kernel
theorem dX10_isAllTold_8 : decode cX10_isAllTold 8 = .ok (.caload, 1) := by decide +kernel
theorem dX10_isAllTold_9 : decode cX10_isAllTold 9 = .ok (.istore_n 2, 1) := by decide +kernel
theorem dX10_isAllTold_10 : decode cX10_isAllTold 10 = .ok (.aload_n 0, 1) := by decide +kernel
theorem dX10_isAllTold_11 : decode cX10_isAllTold 11 = .ok (.getfield 9, 3) := by decide +kernel
theorem dX10_isAllTold_14 : decode cX10_isAllTold 14 = .ok (.getfield 72, 3) := by decide +kernel
theorem dX10_isAllTold_17 : decode cX10_isAllTold 17 = .ok (.iload_n 1, 1) := by decide +kernel
theorem dX10_isAllTold_18 : decode cX10_isAllTold 18 = .ok (.iaload, 1) := by decide +kernel
theorem dX10_isAllTold_19 : decode cX10_isAllTold 19 = .ok (.istore_n 3, 1) := by decide +kernel
theorem dX10_isAllTold_20 : decode cX10_isAllTold 20 = .ok (.aload_n 0, 1) := by decide +kernel
theorem dX10_isAllTold_21 : decode cX10_isAllTold 21 = .ok (.getfield 15, 3) := by decide +kernel
theorem dX10_isAllTold_24 : decode cX10_isAllTold 24 = .ok (.iload_n 3, 1) := by decide +kernel
theorem dX10_isAllTold_25 : decode cX10_isAllTold 25 = .ok (.invokevirtual 103, 3) := by decide +kernel
theorem dX10_isAllTold_28 : decode cX10_isAllTold 28 = .ok (.istore 4, 2) := by decide +kernel
theorem dX10_isAllTold_30 : decode cX10_isAllTold 30 = .ok (.aload_n 0, 1) := by decide +kernel
theorem dX10_isAllTold_31 : decode cX10_isAllTold 31 = .ok (.getfield 9, 3) := by decide +kernel
theorem dX10_isAllTold_34 : decode cX10_isAllTold 34 = .ok (.getfield 82, 3) := by decide +kernel
theorem dX10_isAllTold_37 : decode cX10_isAllTold 37 = .ok (.iload_n 1, 1) := by decide +kernel
theorem dX10_isAllTold_38 : decode cX10_isAllTold 38 = .ok (.iaload, 1) := by decide +kernel
theorem dX10_isAllTold_39 : decode cX10_isAllTold 39 = .ok (.istore 5, 2) := by decide +kernel
theorem dX10_isAllTold_41 : decode cX10_isAllTold 41 = .ok (.aload_n 0, 1) := by decide +kernel
theorem dX10_isAllTold_42 : decode cX10_isAllTold 42 = .ok (.getfield 15, 3) := by decide +kernel
theorem dX10_isAllTold_45 : decode cX10_isAllTold 45 = .ok (.iload_n 3, 1) := by decide +kernel
theorem dX10_isAllTold_46 : decode cX10_isAllTold 46 = .ok (.invokevirtual 96, 3) := by decide +kernel
theorem dX10_isAllTold_49 : decode cX10_isAllTold 49 = .ok (.istore 6, 2) := by decide +kernel
theorem dX10_isAllTold_51 : decode cX10_isAllTold 51 = .ok (.iload_n 2, 1) := by decide +kernel
theorem dX10_isAllTold_52 : decode cX10_isAllTold 52 = .ok (.bipush 37, 2) := by decide +kernel
theorem dX10_isAllTold_54 : decode cX10_isAllTold 54 = .ok (.if_icmp .ne 13, 3) := by decide +kernel
theorem dX10_isAllTold_57 : decode cX10_isAllTold 57 = .ok (.aload_n 0, 1) := by decide +kernel
theorem dX10_isAllTold_58 : decode cX10_isAllTold 58 = .ok (.getfield 9, 3) := by decide +kernel
theorem dX10_isAllTold_61 : decode cX10_isAllTold 61 = .ok (.getfield 106, 3) := by decide +kernel
theorem dX10_isAllTold_64 : decode cX10_isAllTold 64 = .ok (.goto 10, 3) := by decide +kernel
theorem dX10_isAllTold_67 : decode cX10_isAllTold 67 = .ok (.aload_n 0, 1) := by decide +kernel
theorem dX10_isAllTold_68 : decode cX10_isAllTold 68 = .ok (.getfield 9, 3) := by decide +kernel
theorem dX10_isAllTold_71 : decode cX10_isAllTold 71 = .ok (.getfield 109, 3) := by decide +kernel
theorem dX10_isAllTold_74 : decode cX10_isAllTold 74 = .ok (.astore 7, 2) := by decide +kernel
theorem dX10_isAllTold_76 : decode cX10_isAllTold 76 = .ok (.aload 7, 2) := by decide +kernel
theorem dX10_isAllTold_78 : decode cX10_isAllTold 78 = .ok (.iload 5, 2) := by decide +kernel
theorem dX10_isAllTold_80 : decode cX10_isAllTold 80 = .ok (.iload 6, 2) := by decide +kernel
theorem dX10_isAllTold_82 : decode cX10_isAllTold 82 = .ok (.aload_n 0, 1) := by decide +kernel
theorem dX10_isAllTold_83 : decode cX10_isAllTold 83 = .ok (.getfield 9, 3) := by decide +kernel
theorem dX10_isAllTold_86 : decode cX10_isAllTold 86 = .ok (.getfield 100, 3) := by decide +kernel
theorem dX10_isAllTold_89 : decode cX10_isAllTold 89 = .ok (.iload 4, 2) := by decide +kernel
theorem dX10_isAllTold_91 : decode cX10_isAllTold 91 = .ok (.iaload, 1) := by decide +kernel
theorem dX10_isAllTold_92 : decode cX10_isAllTold 92 = .ok (.invokestatic 112, 3) := by decide +kernel
theorem dX10_isAllTold_95 : decode cX10_isAllTold 95 = .ok (.laload, 1) := by decide +kernel
theorem dX10_isAllTold_96 : decode cX10_isAllTold 96 = .ok (.lstore 8, 2) := by decide +kernel
theorem dX10_isAllTold_98 : decode cX10_isAllTold 98 = .ok (.iload_n 2, 1) := by decide +kernel
theorem dX10_isAllTold_99 : decode cX10_isAllTold 99 = .ok (.bipush 35, 2) := by decide +kernel
theorem dX10_isAllTold_101 : decode cX10_isAllTold 101 = .ok (.if_icmp .eq 17, 3) := by decide +kernel
theorem dX10_isAllTold_104 : decode cX10_isAllTold 104 = .ok (.lload 8, 2) := by decide +kernel
theorem dX10_isAllTold_106 : decode cX10_isAllTold 106 = .ok (.lconst 0, 1) := by decide +kernel
theorem dX10_isAllTold_107 : decode cX10_isAllTold 107 = .ok (.lcmp, 1) := by decide +kernel
theorem dX10_isAllTold_108 : decode cX10_isAllTold 108 = .ok (.ifCond .ne 10, 3) := by decide +kernel
theorem dX10_isAllTold_111 : decode cX10_isAllTold 111 = .ok (.aload_n 0, 1) := by decide +kernel
theorem dX10_isAllTold_112 : decode cX10_isAllTold 112 = .ok (.iload_n 3, 1) := by decide +kernel
theorem dX10_isAllTold_113 : decode cX10_isAllTold 113 = .ok (.iconst 4, 1) := by decide +kernel
theorem dX10_isAllTold_114 : decode cX10_isAllTold 114 = .ok (.invokevirtual 78, 3) := by decide +kernel
theorem dX10_isAllTold_117 : decode cX10_isAllTold 117 = .ok (.ireturn, 1) := by decide +kernel
theorem dX10_isAllTold_118 : decode cX10_isAllTold 118 = .ok (.iload_n 2, 1) := by decide +kernel
theorem dX10_isAllTold_119 : decode cX10_isAllTold 119 = .ok (.bipush 37, 2) := by decide +kernel
theorem dX10_isAllTold_121 : decode cX10_isAllTold 121 = .ok (.if_icmp .eq 28, 3) := by decide +kernel
theorem dX10_isAllTold_124 : decode cX10_isAllTold 124 = .ok (.aload_n 0, 1) := by decide +kernel
theorem dX10_isAllTold_125 : decode cX10_isAllTold 125 = .ok (.getfield 15, 3) := by decide +kernel
theorem dX10_isAllTold_128 : decode cX10_isAllTold 128 = .ok (.iload 4, 2) := by decide +kernel
theorem dX10_isAllTold_130 : decode cX10_isAllTold 130 = .ok (.iload 5, 2) := by decide +kernel
theorem dX10_isAllTold_132 : decode cX10_isAllTold 132 = .ok (.iload 6, 2) := by decide +kernel
theorem dX10_isAllTold_134 : decode cX10_isAllTold 134 = .ok (.invokevirtual 23, 3) := by decide +kernel
theorem dX10_isAllTold_137 : decode cX10_isAllTold 137 = .ok (.ifCond .eq 12, 3) := by decide +kernel
theorem dX10_isAllTold_140 : decode cX10_isAllTold 140 = .ok (.aload_n 0, 1) := by decide +kernel
theorem dX10_isAllTold_141 : decode cX10_isAllTold 141 = .ok (.iload_n 3, 1) := by decide +kernel
theorem dX10_isAllTold_142 : decode cX10_isAllTold 142 = .ok (.iconst 1, 1) := by decide +kernel
theorem dX10_isAllTold_143 : decode cX10_isAllTold 143 = .ok (.invokevirtual 78, 3) := by decide +kernel
theorem dX10_isAllTold_146 : decode cX10_isAllTold 146 = .ok (.ifCond .eq 7, 3) := by decide +kernel
theorem dX10_isAllTold_149 : decode cX10_isAllTold 149 = .ok (.iconst 1, 1) := by decide +kernel
theorem dX10_isAllTold_150 : decode cX10_isAllTold 150 = .ok (.goto 4, 3) := by decide +kernel
theorem dX10_isAllTold_153 : decode cX10_isAllTold 153 = .ok (.iconst 0, 1) := by decide +kernel
theorem dX10_isAllTold_154 : decode cX10_isAllTold 154 = .ok (.ireturn, 1) := by decide +kernel
theorem dX10_boundWordIn_0 : decode cX10_boundWordIn 0 = .ok (.aload_n 0, 1) := by decide +kernel
theorem dX10_boundWordIn_1 : decode cX10_boundWordIn 1 = .ok (.getfield 9, 3) := by decide +kernel
theorem dX10_boundWordIn_4 : decode cX10_boundWordIn 4 = .ok (.getfield 72, 3) := by decide +kernel
theorem dX10_boundWordIn_7 : decode cX10_boundWordIn 7 = .ok (.iload_n 1, 1) := by decide +kernel
theorem dX10_boundWordIn_8 : decode cX10_boundWordIn 8 = .ok (.iaload, 1) := by decide +kernel
theorem dX10_boundWordIn_9 : decode cX10_boundWordIn 9 = .ok (.istore_n 2, 1) := by decide +kernel
theorem dX10_boundWordIn_10 : decode cX10_boundWordIn 10 = .ok (.aload_n 0, 1) := by decide +kernel
theorem dX10_boundWordIn_11 : decode cX10_boundWordIn 11 = .ok (.getfield 9, 3) := by decide +kernel
theorem dX10_boundWordIn_14 : decode cX10_boundWordIn 14 = .ok (.getfield 100, 3) := by decide +kernel
theorem dX10_boundWordIn_17 : decode cX10_boundWordIn 17 = .ok (.aload_n 0, 1) := by decide +kernel
theorem dX10_boundWordIn_18 : decode cX10_boundWordIn 18 = .ok (.getfield 15, 3) := by decide +kernel
theorem dX10_boundWordIn_21 : decode cX10_boundWordIn 21 = .ok (.iload_n 2, 1) := by decide +kernel
theorem dX10_boundWordIn_22 : decode cX10_boundWordIn 22 = .ok (.invokevirtual 103, 3) := by decide +kernel
theorem dX10_boundWordIn_25 : decode cX10_boundWordIn 25 = .ok (.iaload, 1) := by decide +kernel
theorem dX10_boundWordIn_26 : decode cX10_boundWordIn 26 = .ok (.istore_n 3, 1) := by decide +kernel
theorem dX10_boundWordIn_27 : decode cX10_boundWordIn 27 = .ok (.aload_n 0, 1) := by decide +kernel
theorem dX10_boundWordIn_28 : decode cX10_boundWordIn 28 = .ok (.getfield 9, 3) := by decide +kernel
theorem dX10_boundWordIn_31 : decode cX10_boundWordIn 31 = .ok (.getfield 69, 3) := by decide +kernel
theorem dX10_boundWordIn_34 : decode cX10_boundWordIn 34 = .ok (.iload_n 1, 1) := by decide +kernel
theorem dX10_boundWordIn_35 : decode cX10_boundWordIn 35 = .ok (.caload, 1) := by decide +kernel
theorem dX10_boundWordIn_36 : decode cX10_boundWordIn 36 = .ok (.bipush 37, 2) := by decide +kernel
theorem dX10_boundWordIn_38 : decode cX10_boundWordIn 38 = .ok (.if_icmp .ne 13, 3) := by decide +kernel
theorem dX10_boundWordIn_41 : decode cX10_boundWordIn 41 = .ok (.aload_n 0, 1) := by decide +kernel
theorem dX10_boundWordIn_42 : decode cX10_boundWordIn 42 = .ok (.getfield 9, 3) := by decide +kernel
theorem dX10_boundWordIn_45 : decode cX10_boundWordIn 45 = .ok (.getfield 106, 3) := by decide +kernel
theorem dX10_boundWordIn_48 : decode cX10_boundWordIn 48 = .ok (.goto 10, 3) := by decide +kernel
theorem dX10_boundWordIn_51 : decode cX10_boundWordIn 51 = .ok (.aload_n 0, 1) := by decide +kernel
theorem dX10_boundWordIn_52 : decode cX10_boundWordIn 52 = .ok (.getfield 9, 3) := by decide +kernel
theorem dX10_boundWordIn_55 : decode cX10_boundWordIn 55 = .ok (.getfield 109, 3) := by decide +kernel
theorem dX10_boundWordIn_58 : decode cX10_boundWordIn 58 = .ok (.astore 4, 2) := by decide +kernel
theorem dX10_boundWordIn_60 : decode cX10_boundWordIn 60 = .ok (.aload 4, 2) := by decide +kernel
theorem dX10_boundWordIn_62 : decode cX10_boundWordIn 62 = .ok (.aload_n 0, 1) := by decide +kernel
theorem dX10_boundWordIn_63 : decode cX10_boundWordIn 63 = .ok (.getfield 9, 3) := by decide +kernel
theorem dX10_boundWordIn_66 : decode cX10_boundWordIn 66 = .ok (.getfield 82, 3) := by decide +kernel
theorem dX10_boundWordIn_69 : decode cX10_boundWordIn 69 = .ok (.iload_n 1, 1) := by decide +kernel
theorem dX10_boundWordIn_70 : decode cX10_boundWordIn 70 = .ok (.iaload, 1) := by decide +kernel
theorem dX10_boundWordIn_71 : decode cX10_boundWordIn 71 = .ok (.aload_n 0, 1) := by decide +kernel
theorem dX10_boundWordIn_72 : decode cX10_boundWordIn 72 = .ok (.getfield 15, 3) := by decide +kernel
theorem dX10_boundWordIn_75 : decode cX10_boundWordIn 75 = .ok (.iload_n 2, 1) := by decide +kernel
theorem dX10_boundWordIn_76 : decode cX10_boundWordIn 76 = .ok (.invokevirtual 96, 3) := by decide +kernel
theorem dX10_boundWordIn_79 : decode cX10_boundWordIn 79 = .ok (.iload_n 3, 1) := by decide +kernel
theorem dX10_boundWordIn_80 : decode cX10_boundWordIn 80 = .ok (.invokestatic 115, 3) := by decide +kernel
theorem dX10_boundWordIn_83 : decode cX10_boundWordIn 83 = .ok (.lreturn, 1) := by decide +kernel
theorem dX10_defaultIn_0 : decode cX10_defaultIn 0 = .ok (.aload_n 0, 1) := by decide +kernel
theorem dX10_defaultIn_1 : decode cX10_defaultIn 1 = .ok (.getfield 9, 3) := by decide +kernel
theorem dX10_defaultIn_4 : decode cX10_defaultIn 4 = .ok (.getfield 72, 3) := by decide +kernel
theorem dX10_defaultIn_7 : decode cX10_defaultIn 7 = .ok (.iload_n 1, 1) := by decide +kernel
theorem dX10_defaultIn_8 : decode cX10_defaultIn 8 = .ok (.iaload, 1) := by decide +kernel
theorem dX10_defaultIn_9 : decode cX10_defaultIn 9 = .ok (.istore_n 2, 1) := by decide +kernel
theorem dX10_defaultIn_10 : decode cX10_defaultIn 10 = .ok (.aload_n 0, 1) := by decide +kernel
theorem dX10_defaultIn_11 : decode cX10_defaultIn 11 = .ok (.getfield 15, 3) := by decide +kernel
theorem dX10_defaultIn_14 : decode cX10_defaultIn 14 = .ok (.aload_n 0, 1) := by decide +kernel
theorem dX10_defaultIn_15 : decode cX10_defaultIn 15 = .ok (.getfield 15, 3) := by decide +kernel
theorem dX10_defaultIn_18 : decode cX10_defaultIn 18 = .ok (.iload_n 2, 1) := by decide +kernel
theorem dX10_defaultIn_19 : decode cX10_defaultIn 19 = .ok (.invokevirtual 103, 3) := by decide +kernel
theorem dX10_defaultIn_22 : decode cX10_defaultIn 22 = .ok (.aload_n 0, 1) := by decide +kernel
theorem dX10_defaultIn_23 : decode cX10_defaultIn 23 = .ok (.getfield 9, 3) := by decide +kernel
theorem dX10_defaultIn_26 : decode cX10_defaultIn 26 = .ok (.getfield 82, 3) := by decide +kernel
theorem dX10_defaultIn_29 : decode cX10_defaultIn 29 = .ok (.iload_n 1, 1) := by decide +kernel
theorem dX10_defaultIn_30 : decode cX10_defaultIn 30 = .ok (.iaload, 1) := by decide +kernel
theorem dX10_defaultIn_31 : decode cX10_defaultIn 31 = .ok (.aload_n 0, 1) := by decide +kernel
theorem dX10_defaultIn_32 : decode cX10_defaultIn 32 = .ok (.getfield 15, 3) := by decide +kernel
theorem dX10_defaultIn_35 : decode cX10_defaultIn 35 = .ok (.iload_n 2, 1) := by decide +kernel
theorem dX10_defaultIn_36 : decode cX10_defaultIn 36 = .ok (.invokevirtual 96, 3) := by decide +kernel
theorem dX10_defaultIn_39 : decode cX10_defaultIn 39 = .ok (.invokevirtual 23, 3) := by decide +kernel
theorem dX10_defaultIn_42 : decode cX10_defaultIn 42 = .ok (.ireturn, 1) := by decide +kernel
theorem dX10_formIn_0 : decode cX10_formIn 0 = .ok (.aload_n 0, 1) := by decide +kernel
theorem dX10_formIn_1 : decode cX10_formIn 1 = .ok (.getfield 9, 3) := by decide +kernel
theorem dX10_formIn_4 : decode cX10_formIn 4 = .ok (.getfield 72, 3) := by decide +kernel
theorem dX10_formIn_7 : decode cX10_formIn 7 = .ok (.iload_n 1, 1) := by decide +kernel
theorem dX10_formIn_8 : decode cX10_formIn 8 = .ok (.iaload, 1) := by decide +kernel
theorem dX10_formIn_9 : decode cX10_formIn 9 = .ok (.istore_n 2, 1) := by decide +kernel
theorem dX10_formIn_10 : decode cX10_formIn 10 = .ok (.aload_n 0, 1) := by decide +kernel
theorem dX10_formIn_11 : decode cX10_formIn 11 = .ok (.aload_n 0, 1) := by decide +kernel
theorem dX10_formIn_12 : decode cX10_formIn 12 = .ok (.getfield 15, 3) := by decide +kernel
theorem dX10_formIn_15 : decode cX10_formIn 15 = .ok (.iload_n 2, 1) := by decide +kernel
theorem dX10_formIn_16 : decode cX10_formIn 16 = .ok (.invokevirtual 103, 3) := by decide +kernel
theorem dX10_formIn_19 : decode cX10_formIn 19 = .ok (.aload_n 0, 1) := by decide +kernel
theorem dX10_formIn_20 : decode cX10_formIn 20 = .ok (.getfield 9, 3) := by decide +kernel
theorem dX10_formIn_23 : decode cX10_formIn 23 = .ok (.getfield 82, 3) := by decide +kernel
theorem dX10_formIn_26 : decode cX10_formIn 26 = .ok (.iload_n 1, 1) := by decide +kernel
theorem dX10_formIn_27 : decode cX10_formIn 27 = .ok (.iaload, 1) := by decide +kernel
theorem dX10_formIn_28 : decode cX10_formIn 28 = .ok (.aload_n 0, 1) := by decide +kernel
theorem dX10_formIn_29 : decode cX10_formIn 29 = .ok (.getfield 15, 3) := by decide +kernel
theorem dX10_formIn_32 : decode cX10_formIn 32 = .ok (.iload_n 2, 1) := by decide +kernel
theorem dX10_formIn_33 : decode cX10_formIn 33 = .ok (.invokevirtual 96, 3) := by decide +kernel
theorem dX10_formIn_36 : decode cX10_formIn 36 = .ok (.invokevirtual 41, 3) := by decide +kernel
theorem dX10_formIn_39 : decode cX10_formIn 39 = .ok (.lreturn, 1) := by decide +kernel
theorem dX10_bytesTold_0 : decode cX10_bytesTold 0 = .ok (.aload_n 0, 1) := by decide +kernel
theorem dX10_bytesTold_1 : decode cX10_bytesTold 1 = .ok (.iload_n 1, 1) := by decide +kernel
theorem dX10_bytesTold_2 : decode cX10_bytesTold 2 = .ok (.invokevirtual 49, 3) := by decide +kernel
theorem dX10_bytesTold_5 : decode cX10_bytesTold 5 = .ok (.ifCond .ne 5, 3) := by decide +kernel
theorem dX10_bytesTold_8 : decode cX10_bytesTold 8 = .ok (.iconst (-1), 1) := by decide +kernel
theorem dX10_bytesTold_9 : decode cX10_bytesTold 9 = .ok (.ireturn, 1) := by decide +kernel
theorem dX10_bytesTold_10 : decode cX10_bytesTold 10 = .ok (.aload_n 0, 1) := by decide +kernel
theorem dX10_bytesTold_11 : decode cX10_bytesTold 11 = .ok (.iconst 0, 1) := by decide +kernel
theorem dX10_bytesTold_12 : decode cX10_bytesTold 12 = .ok (.putfield 119, 3) := by decide +kernel
theorem dX10_bytesTold_15 : decode cX10_bytesTold 15 = .ok (.iload_n 1, 1) := by decide +kernel
theorem dX10_bytesTold_16 : decode cX10_bytesTold 16 = .ok (.bipush 8, 2) := by decide +kernel
theorem dX10_bytesTold_18 : decode cX10_bytesTold 18 = .ok (.imul, 1) := by decide +kernel
theorem dX10_bytesTold_19 : decode cX10_bytesTold 19 = .ok (.istore_n 2, 1) := by decide +kernel
theorem dX10_bytesTold_20 : decode cX10_bytesTold 20 = .ok (.iload_n 2, 1) := by decide +kernel
theorem dX10_bytesTold_21 : decode cX10_bytesTold 21 = .ok (.istore_n 3, 1) := by decide +kernel
theorem dX10_bytesTold_22 : decode cX10_bytesTold 22 = .ok (.iload_n 3, 1) := by decide +kernel
theorem dX10_bytesTold_23 : decode cX10_bytesTold 23 = .ok (.iload_n 2, 1) := by decide +kernel
theorem dX10_bytesTold_24 : decode cX10_bytesTold 24 = .ok (.aload_n 0, 1) := by decide +kernel
theorem dX10_bytesTold_25 : decode cX10_bytesTold 25 = .ok (.getfield 9, 3) := by decide +kernel
theorem dX10_bytesTold_28 : decode cX10_bytesTold 28 = .ok (.getfield 53, 3) := by decide +kernel
theorem dX10_bytesTold_31 : decode cX10_bytesTold 31 = .ok (.iload_n 1, 1) := by decide +kernel
theorem dX10_bytesTold_32 : decode cX10_bytesTold 32 = .ok (.iaload, 1) := by decide +kernel
theorem dX10_bytesTold_33 : decode cX10_bytesTold 33 = .ok (.iadd, 1) := by decide +kernel
theorem dX10_bytesTold_34 : decode cX10_bytesTold 34 = .ok (.if_icmp .ge 14, 3) := by decide +kernel
theorem dX10_bytesTold_37 : decode cX10_bytesTold 37 = .ok (.aload_n 0, 1) := by decide +kernel
theorem dX10_bytesTold_38 : decode cX10_bytesTold 38 = .ok (.iload_n 3, 1) := by decide +kernel
theorem dX10_bytesTold_39 : decode cX10_bytesTold 39 = .ok (.invokevirtual 122, 3) := by decide +kernel
theorem dX10_bytesTold_42 : decode cX10_bytesTold 42 = .ok (.iinc 3 1, 3) := by decide +kernel
theorem dX10_bytesTold_45 : decode cX10_bytesTold 45 = .ok (.goto (-23), 3) := by decide +kernel
theorem dX10_bytesTold_48 : decode cX10_bytesTold 48 = .ok (.aload_n 0, 1) := by decide +kernel
theorem dX10_bytesTold_49 : decode cX10_bytesTold 49 = .ok (.getfield 119, 3) := by decide +kernel
theorem dX10_bytesTold_52 : decode cX10_bytesTold 52 = .ok (.ireturn, 1) := by decide +kernel
theorem dX10_tellsAs_0 : decode cX10_tellsAs 0 = .ok (.aload_n 0, 1) := by decide +kernel
theorem dX10_tellsAs_1 : decode cX10_tellsAs 1 = .ok (.iconst 0, 1) := by decide +kernel
theorem dX10_tellsAs_2 : decode cX10_tellsAs 2 = .ok (.putfield 119, 3) := by decide +kernel
theorem dX10_tellsAs_5 : decode cX10_tellsAs 5 = .ok (.iload_n 1, 1) := by decide +kernel
theorem dX10_tellsAs_6 : decode cX10_tellsAs 6 = .ok (.bipush 8, 2) := by decide +kernel
theorem dX10_tellsAs_8 : decode cX10_tellsAs 8 = .ok (.imul, 1) := by decide +kernel
theorem dX10_tellsAs_9 : decode cX10_tellsAs 9 = .ok (.istore_n 3, 1) := by decide +kernel
theorem dX10_tellsAs_10 : decode cX10_tellsAs 10 = .ok (.iload_n 3, 1) := by decide +kernel
theorem dX10_tellsAs_11 : decode cX10_tellsAs 11 = .ok (.istore 4, 2) := by decide +kernel
theorem dX10_tellsAs_13 : decode cX10_tellsAs 13 = .ok (.iload 4, 2) := by decide +kernel
theorem dX10_tellsAs_15 : decode cX10_tellsAs 15 = .ok (.iload_n 3, 1) := by decide +kernel
theorem dX10_tellsAs_16 : decode cX10_tellsAs 16 = .ok (.aload_n 0, 1) := by decide +kernel
theorem dX10_tellsAs_17 : decode cX10_tellsAs 17 = .ok (.getfield 9, 3) := by decide +kernel
theorem dX10_tellsAs_20 : decode cX10_tellsAs 20 = .ok (.getfield 53, 3) := by decide +kernel
theorem dX10_tellsAs_23 : decode cX10_tellsAs 23 = .ok (.iload_n 1, 1) := by decide +kernel
theorem dX10_tellsAs_24 : decode cX10_tellsAs 24 = .ok (.iaload, 1) := by decide +kernel
theorem dX10_tellsAs_25 : decode cX10_tellsAs 25 = .ok (.iadd, 1) := by decide +kernel
theorem dX10_tellsAs_26 : decode cX10_tellsAs 26 = .ok (.if_icmp .ge 44, 3) := by decide +kernel
theorem dX10_tellsAs_29 : decode cX10_tellsAs 29 = .ok (.aload_n 0, 1) := by decide +kernel
theorem dX10_tellsAs_30 : decode cX10_tellsAs 30 = .ok (.iload 4, 2) := by decide +kernel
theorem dX10_tellsAs_32 : decode cX10_tellsAs 32 = .ok (.invokevirtual 57, 3) := by decide +kernel
theorem dX10_tellsAs_35 : decode cX10_tellsAs 35 = .ok (.ifCond .ne 5, 3) := by decide +kernel
theorem dX10_tellsAs_38 : decode cX10_tellsAs 38 = .ok (.iconst 0, 1) := by decide +kernel
theorem dX10_tellsAs_39 : decode cX10_tellsAs 39 = .ok (.ireturn, 1) := by decide +kernel
theorem dX10_tellsAs_40 : decode cX10_tellsAs 40 = .ok (.aload_n 0, 1) := by decide +kernel
theorem dX10_tellsAs_41 : decode cX10_tellsAs 41 = .ok (.getfield 119, 3) := by decide +kernel
theorem dX10_tellsAs_44 : decode cX10_tellsAs 44 = .ok (.istore 5, 2) := by decide +kernel
theorem dX10_tellsAs_46 : decode cX10_tellsAs 46 = .ok (.aload_n 0, 1) := by decide +kernel
theorem dX10_tellsAs_47 : decode cX10_tellsAs 47 = .ok (.iload 4, 2) := by decide +kernel
theorem dX10_tellsAs_49 : decode cX10_tellsAs 49 = .ok (.invokevirtual 122, 3) := by decide +kernel
theorem dX10_tellsAs_52 : decode cX10_tellsAs 52 = .ok (.aload_n 0, 1) := by decide +kernel
theorem dX10_tellsAs_53 : decode cX10_tellsAs 53 = .ok (.aload_n 2, 1) := by decide +kernel
theorem dX10_tellsAs_54 : decode cX10_tellsAs 54 = .ok (.iload 5, 2) := by decide +kernel
theorem dX10_tellsAs_56 : decode cX10_tellsAs 56 = .ok (.invokevirtual 126, 3) := by decide +kernel
theorem dX10_tellsAs_59 : decode cX10_tellsAs 59 = .ok (.ifCond .ne 5, 3) := by decide +kernel
theorem dX10_tellsAs_62 : decode cX10_tellsAs 62 = .ok (.iconst 0, 1) := by decide +kernel
theorem dX10_tellsAs_63 : decode cX10_tellsAs 63 = .ok (.ireturn, 1) := by decide +kernel
theorem dX10_tellsAs_64 : decode cX10_tellsAs 64 = .ok (.iinc 4 1, 3) := by decide +kernel
theorem dX10_tellsAs_67 : decode cX10_tellsAs 67 = .ok (.goto (-54), 3) := by decide +kernel
theorem dX10_tellsAs_70 : decode cX10_tellsAs 70 = .ok (.aload_n 0, 1) := by decide +kernel
theorem dX10_tellsAs_71 : decode cX10_tellsAs 71 = .ok (.getfield 119, 3) := by decide +kernel
theorem dX10_tellsAs_74 : decode cX10_tellsAs 74 = .ok (.aload_n 2, 1) := by decide +kernel
theorem dX10_tellsAs_75 : decode cX10_tellsAs 75 = .ok (.getfield 130, 3) := by decide +kernel
theorem dX10_tellsAs_78 : decode cX10_tellsAs 78 = .ok (.if_icmp .ne 7, 3) := by decide +kernel
theorem dX10_tellsAs_81 : decode cX10_tellsAs 81 = .ok (.iconst 1, 1) := by decide +kernel
theorem dX10_tellsAs_82 : decode cX10_tellsAs 82 = .ok (.goto 4, 3) := by decide +kernel
theorem dX10_tellsAs_85 : decode cX10_tellsAs 85 = .ok (.iconst 0, 1) := by decide +kernel
theorem dX10_tellsAs_86 : decode cX10_tellsAs 86 = .ok (.ireturn, 1) := by decide +kernel
theorem dX10_isLineAs_0 : decode cX10_isLineAs 0 = .ok (.aload_n 0, 1) := by decide +kernel
theorem dX10_isLineAs_1 : decode cX10_isLineAs 1 = .ok (.getfield 119, 3) := by decide +kernel
theorem dX10_isLineAs_4 : decode cX10_isLineAs 4 = .ok (.aload_n 1, 1) := by decide +kernel
theorem dX10_isLineAs_5 : decode cX10_isLineAs 5 = .ok (.getfield 130, 3) := by decide +kernel
theorem dX10_isLineAs_8 : decode cX10_isLineAs 8 = .ok (.if_icmp .le 5, 3) := by decide +kernel
theorem dX10_isLineAs_11 : decode cX10_isLineAs 11 = .ok (.iconst 0, 1) := by decide +kernel
theorem dX10_isLineAs_12 : decode cX10_isLineAs 12 = .ok (.ireturn, 1) := by decide +kernel
theorem dX10_isLineAs_13 : decode cX10_isLineAs 13 = .ok (.iload_n 2, 1) := by decide +kernel
theorem dX10_isLineAs_14 : decode cX10_isLineAs 14 = .ok (.istore_n 3, 1) := by decide +kernel
theorem dX10_isLineAs_15 : decode cX10_isLineAs 15 = .ok (.iload_n 3, 1) := by decide +kernel
theorem dX10_isLineAs_16 : decode cX10_isLineAs 16 = .ok (.aload_n 0, 1) := by decide +kernel
theorem dX10_isLineAs_17 : decode cX10_isLineAs 17 = .ok (.getfield 119, 3) := by decide +kernel
theorem dX10_isLineAs_20 : decode cX10_isLineAs 20 = .ok (.if_icmp .ge 26, 3) := by decide +kernel
theorem dX10_isLineAs_23 : decode cX10_isLineAs 23 = .ok (.aload_n 0, 1) := by decide +kernel
theorem dX10_isLineAs_24 : decode cX10_isLineAs 24 = .ok (.getfield 19, 3) := by decide +kernel
theorem dX10_isLineAs_27 : decode cX10_isLineAs 27 = .ok (.iload_n 3, 1) := by decide +kernel
theorem dX10_isLineAs_28 : decode cX10_isLineAs 28 = .ok (.caload, 1) := by decide +kernel
theorem dX10_isLineAs_29 : decode cX10_isLineAs 29 = .ok (.aload_n 1, 1) := by decide +kernel
theorem dX10_isLineAs_30 : decode cX10_isLineAs 30 = .ok (.getfield 135, 3) := by decide +kernel
theorem dX10_isLineAs_33 : decode cX10_isLineAs 33 = .ok (.iload_n 3, 1) := by decide +kernel
theorem dX10_isLineAs_34 : decode cX10_isLineAs 34 = .ok (.caload, 1) := by decide +kernel
theorem dX10_isLineAs_35 : decode cX10_isLineAs 35 = .ok (.if_icmp .eq 5, 3) := by decide +kernel
theorem dX10_isLineAs_38 : decode cX10_isLineAs 38 = .ok (.iconst 0, 1) := by decide +kernel
theorem dX10_isLineAs_39 : decode cX10_isLineAs 39 = .ok (.ireturn, 1) := by decide +kernel
theorem dX10_isLineAs_40 : decode cX10_isLineAs 40 = .ok (.iinc 3 1, 3) := by decide +kernel
theorem dX10_isLineAs_43 : decode cX10_isLineAs 43 = .ok (.goto (-28), 3) := by decide +kernel
theorem dX10_isLineAs_46 : decode cX10_isLineAs 46 = .ok (.iconst 1, 1) := by decide +kernel
theorem dX10_isLineAs_47 : decode cX10_isLineAs 47 = .ok (.ireturn, 1) := by decide +kernel
theorem dX10_putItem_0 : decode cX10_putItem 0 = .ok (.aload_n 0, 1) := by decide +kernel
theorem dX10_putItem_1 : decode cX10_putItem 1 = .ok (.getfield 9, 3) := by decide +kernel
theorem dX10_putItem_4 : decode cX10_putItem 4 = .ok (.getfield 69, 3) := by decide +kernel
theorem dX10_putItem_7 : decode cX10_putItem 7 = .ok (.iload_n 1, 1) := by decide +kernel
theorem dX10_putItem_8 : decode cX10_putItem 8 = .ok (.caload, 1) := by decide +kernel
theorem dX10_putItem_9 : decode cX10_putItem 9 = .ok (.lookupswitch 135 #[(35, 67), (36, 112), (37, 100), (64, 79), (119, 51)], 51) := by decide +kernel
theorem dX10_putItem_60 : decode cX10_putItem 60 = .ok (.aload_n 0, 1) := by decide +kernel
theorem dX10_putItem_61 : decode cX10_putItem 61 = .ok (.aload_n 0, 1) := by decide +kernel
theorem dX10_putItem_62 : decode cX10_putItem 62 = .ok (.getfield 9, 3) := by decide +kernel
theorem dX10_putItem_65 : decode cX10_putItem 65 = .ok (.getfield 137, 3) := by decide +kernel
theorem dX10_putItem_68 : decode cX10_putItem 68 = .ok (.iload_n 1, 1) := by decide +kernel
theorem dX10_putItem_69 : decode cX10_putItem 69 = .ok (.laload, 1) := by decide +kernel
theorem dX10_putItem_70 : decode cX10_putItem 70 = .ok (.invokevirtual 140, 3) := by decide +kernel
theorem dX10_putItem_73 : decode cX10_putItem 73 = .ok (.goto 71, 3) := by decide +kernel
theorem dX10_putItem_76 : decode cX10_putItem 76 = .ok (.aload_n 0, 1) := by decide +kernel
theorem dX10_putItem_77 : decode cX10_putItem 77 = .ok (.aload_n 0, 1) := by decide +kernel
theorem dX10_putItem_78 : decode cX10_putItem 78 = .ok (.iload_n 1, 1) := by decide +kernel
theorem dX10_putItem_79 : decode cX10_putItem 79 = .ok (.invokevirtual 144, 3) := by decide +kernel
theorem dX10_putItem_82 : decode cX10_putItem 82 = .ok (.invokevirtual 140, 3) := by decide +kernel
theorem dX10_putItem_85 : decode cX10_putItem 85 = .ok (.goto 59, 3) := by decide +kernel
theorem dX10_putItem_88 : decode cX10_putItem 88 = .ok (.aload_n 0, 1) := by decide +kernel
theorem dX10_putItem_89 : decode cX10_putItem 89 = .ok (.aload_n 0, 1) := by decide +kernel
theorem dX10_putItem_90 : decode cX10_putItem 90 = .ok (.iload_n 1, 1) := by decide +kernel
theorem dX10_putItem_91 : decode cX10_putItem 91 = .ok (.invokevirtual 148, 3) := by decide +kernel
theorem dX10_putItem_94 : decode cX10_putItem 94 = .ok (.invokevirtual 140, 3) := by decide +kernel
theorem dX10_putItem_97 : decode cX10_putItem 97 = .ok (.aload_n 0, 1) := by decide +kernel
theorem dX10_putItem_98 : decode cX10_putItem 98 = .ok (.aload_n 0, 1) := by decide +kernel
theorem dX10_putItem_99 : decode cX10_putItem 99 = .ok (.iload_n 1, 1) := by decide +kernel
theorem dX10_putItem_100 : decode cX10_putItem 100 = .ok (.invokevirtual 144, 3) := by decide +kernel
theorem dX10_putItem_103 : decode cX10_putItem 103 = .ok (.invokevirtual 140, 3) := by decide +kernel
theorem dX10_putItem_106 : decode cX10_putItem 106 = .ok (.goto 38, 3) := by decide +kernel
theorem dX10_putItem_109 : decode cX10_putItem 109 = .ok (.aload_n 0, 1) := by decide +kernel
theorem dX10_putItem_110 : decode cX10_putItem 110 = .ok (.aload_n 0, 1) := by decide +kernel
theorem dX10_putItem_111 : decode cX10_putItem 111 = .ok (.iload_n 1, 1) := by decide +kernel
theorem dX10_putItem_112 : decode cX10_putItem 112 = .ok (.invokevirtual 148, 3) := by decide +kernel
theorem dX10_putItem_115 : decode cX10_putItem 115 = .ok (.invokevirtual 140, 3) := by decide +kernel
theorem dX10_putItem_118 : decode cX10_putItem 118 = .ok (.goto 26, 3) := by decide +kernel
theorem dX10_putItem_121 : decode cX10_putItem 121 = .ok (.aload_n 0, 1) := by decide +kernel
theorem dX10_putItem_122 : decode cX10_putItem 122 = .ok (.aload_n 0, 1) := by decide +kernel
theorem dX10_putItem_123 : decode cX10_putItem 123 = .ok (.getfield 15, 3) := by decide +kernel
theorem dX10_putItem_126 : decode cX10_putItem 126 = .ok (.aload_n 0, 1) := by decide +kernel
theorem dX10_putItem_127 : decode cX10_putItem 127 = .ok (.getfield 9, 3) := by decide +kernel
theorem dX10_putItem_130 : decode cX10_putItem 130 = .ok (.getfield 72, 3) := by decide +kernel
theorem dX10_putItem_133 : decode cX10_putItem 133 = .ok (.iload_n 1, 1) := by decide +kernel
theorem dX10_putItem_134 : decode cX10_putItem 134 = .ok (.iaload, 1) := by decide +kernel
theorem dX10_putItem_135 : decode cX10_putItem 135 = .ok (.invokevirtual 151, 3) := by decide +kernel
theorem dX10_putItem_138 : decode cX10_putItem 138 = .ok (.invokevirtual 154, 3) := by decide +kernel
theorem dX10_putItem_141 : decode cX10_putItem 141 = .ok (.goto 3, 3) := by decide +kernel
theorem dX10_putItem_144 : decode cX10_putItem 144 = .ok (.return_, 1) := by decide +kernel
theorem dX10_putByte_0 : decode cX10_putByte 0 = .ok (.aload_n 0, 1) := by decide +kernel
theorem dX10_putByte_1 : decode cX10_putByte 1 = .ok (.getfield 119, 3) := by decide +kernel
theorem dX10_putByte_4 : decode cX10_putByte 4 = .ok (.aload_n 0, 1) := by decide +kernel
theorem dX10_putByte_5 : decode cX10_putByte 5 = .ok (.getfield 19, 3) := by decide +kernel
theorem dX10_putByte_8 : decode cX10_putByte 8 = .ok (.arraylength, 1) := by decide +kernel
theorem dX10_putByte_9 : decode cX10_putByte 9 = .ok (.if_icmp .ge 24, 3) := by decide +kernel
theorem dX10_putByte_12 : decode cX10_putByte 12 = .ok (.aload_n 0, 1) := by decide +kernel
theorem dX10_putByte_13 : decode cX10_putByte 13 = .ok (.getfield 19, 3) := by decide +kernel
theorem dX10_putByte_16 : decode cX10_putByte 16 = .ok (.aload_n 0, 1) := by decide +kernel
theorem dX10_putByte_17 : decode cX10_putByte 17 = .ok (.getfield 119, 3) := by decide +kernel
theorem dX10_putByte_20 : decode cX10_putByte 20 = .ok (.iload_n 1, 1) := by decide +kernel
theorem dX10_putByte_21 : decode cX10_putByte 21 = .ok (.i2c, 1) := by decide +kernel
theorem dX10_putByte_22 : decode cX10_putByte 22 = .ok (.castore, 1) := by decide +kernel
theorem dX10_putByte_23 : decode cX10_putByte 23 = .ok (.aload_n 0, 1) := by decide +kernel
theorem dX10_putByte_24 : decode cX10_putByte 24 = .ok (.dup, 1) := by decide +kernel
theorem dX10_putByte_25 : decode cX10_putByte 25 = .ok (.getfield 119, 3) := by decide +kernel
theorem dX10_putByte_28 : decode cX10_putByte 28 = .ok (.iconst 1, 1) := by decide +kernel
theorem dX10_putByte_29 : decode cX10_putByte 29 = .ok (.iadd, 1) := by decide +kernel
theorem dX10_putByte_30 : decode cX10_putByte 30 = .ok (.putfield 119, 3) := by decide +kernel
theorem dX10_putByte_33 : decode cX10_putByte 33 = .ok (.return_, 1) := by decide +kernel
theorem dX10_putBlankBetween_0 : decode cX10_putBlankBetween 0 = .ok (.aload_n 0, 1) := by decide +kernel
theorem dX10_putBlankBetween_1 : decode cX10_putBlankBetween 1 = .ok (.getfield 119, 3) := by decide +kernel
theorem dX10_putBlankBetween_4 : decode cX10_putBlankBetween 4 = .ok (.ifCond .le 9, 3) := by decide +kernel
theorem dX10_putBlankBetween_7 : decode cX10_putBlankBetween 7 = .ok (.aload_n 0, 1) := by decide +kernel
theorem dX10_putBlankBetween_8 : decode cX10_putBlankBetween 8 = .ok (.bipush 32, 2) := by decide +kernel
theorem dX10_putBlankBetween_10 : decode cX10_putBlankBetween 10 = .ok (.invokevirtual 157, 3) := by decide +kernel
theorem dX10_putBlankBetween_13 : decode cX10_putBlankBetween 13 = .ok (.return_, 1) := by decide +kernel
theorem dX10_putWord_0 : decode cX10_putWord 0 = .ok (.lload_n 1, 1) := by decide +kernel
theorem dX10_putWord_1 : decode cX10_putWord 1 = .ok (.lconst 0, 1) := by decide +kernel
theorem dX10_putWord_2 : decode cX10_putWord 2 = .ok (.lcmp, 1) := by decide +kernel
theorem dX10_putWord_3 : decode cX10_putWord 3 = .ok (.ifCond .ne 4, 3) := by decide +kernel
theorem dX10_putWord_6 : decode cX10_putWord 6 = .ok (.return_, 1) := by decide +kernel
theorem dX10_putWord_7 : decode cX10_putWord 7 = .ok (.aload_n 0, 1) := by decide +kernel
theorem dX10_putWord_8 : decode cX10_putWord 8 = .ok (.invokevirtual 160, 3) := by decide +kernel
theorem dX10_putWord_11 : decode cX10_putWord 11 = .ok (.lload_n 1, 1) := by decide +kernel
theorem dX10_putWord_12 : decode cX10_putWord 12 = .ok (.invokestatic 163, 3) := by decide +kernel
theorem dX10_putWord_15 : decode cX10_putWord 15 = .ok (.istore_n 3, 1) := by decide +kernel
theorem dX10_putWord_16 : decode cX10_putWord 16 = .ok (.iconst 0, 1) := by decide +kernel
theorem dX10_putWord_17 : decode cX10_putWord 17 = .ok (.istore 4, 2) := by decide +kernel
theorem dX10_putWord_19 : decode cX10_putWord 19 = .ok (.iload 4, 2) := by decide +kernel
theorem dX10_putWord_21 : decode cX10_putWord 21 = .ok (.iload_n 3, 1) := by decide +kernel
theorem dX10_putWord_22 : decode cX10_putWord 22 = .ok (.if_icmp .ge 19, 3) := by decide +kernel
theorem dX10_putWord_25 : decode cX10_putWord 25 = .ok (.aload_n 0, 1) := by decide +kernel
theorem dX10_putWord_26 : decode cX10_putWord 26 = .ok (.lload_n 1, 1) := by decide +kernel
theorem dX10_putWord_27 : decode cX10_putWord 27 = .ok (.iload 4, 2) := by decide +kernel
theorem dX10_putWord_29 : decode cX10_putWord 29 = .ok (.invokestatic 167, 3) := by decide +kernel
theorem dX10_putWord_32 : decode cX10_putWord 32 = .ok (.invokevirtual 157, 3) := by decide +kernel
theorem dX10_putWord_35 : decode cX10_putWord 35 = .ok (.iinc 4 1, 3) := by decide +kernel
theorem dX10_putWord_38 : decode cX10_putWord 38 = .ok (.goto (-19), 3) := by decide +kernel
theorem dX10_putWord_41 : decode cX10_putWord 41 = .ok (.return_, 1) := by decide +kernel
theorem dX10_putNumber_0 : decode cX10_putNumber 0 = .ok (.aload_n 0, 1) := by decide +kernel
theorem dX10_putNumber_1 : decode cX10_putNumber 1 = .ok (.invokevirtual 160, 3) := by decide +kernel
theorem dX10_putNumber_4 : decode cX10_putNumber 4 = .ok (.iload_n 1, 1) := by decide +kernel
theorem dX10_putNumber_5 : decode cX10_putNumber 5 = .ok (.bipush 10, 2) := by decide +kernel
theorem dX10_putNumber_7 : decode cX10_putNumber 7 = .ok (.if_icmp .lt 14, 3) := by decide +kernel
theorem dX10_putNumber_10 : decode cX10_putNumber 10 = .ok (.aload_n 0, 1) := by decide +kernel
theorem dX10_putNumber_11 : decode cX10_putNumber 11 = .ok (.bipush 48, 2) := by decide +kernel
theorem dX10_putNumber_13 : decode cX10_putNumber 13 = .ok (.iload_n 1, 1) := by decide +kernel
theorem dX10_putNumber_14 : decode cX10_putNumber 14 = .ok (.bipush 10, 2) := by decide +kernel
theorem dX10_putNumber_16 : decode cX10_putNumber 16 = .ok (.idiv, 1) := by decide +kernel
theorem dX10_putNumber_17 : decode cX10_putNumber 17 = .ok (.iadd, 1) := by decide +kernel
theorem dX10_putNumber_18 : decode cX10_putNumber 18 = .ok (.invokevirtual 157, 3) := by decide +kernel
theorem dX10_putNumber_21 : decode cX10_putNumber 21 = .ok (.aload_n 0, 1) := by decide +kernel
theorem dX10_putNumber_22 : decode cX10_putNumber 22 = .ok (.bipush 48, 2) := by decide +kernel
theorem dX10_putNumber_24 : decode cX10_putNumber 24 = .ok (.iload_n 1, 1) := by decide +kernel
theorem dX10_putNumber_25 : decode cX10_putNumber 25 = .ok (.bipush 10, 2) := by decide +kernel
theorem dX10_putNumber_27 : decode cX10_putNumber 27 = .ok (.irem, 1) := by decide +kernel
theorem dX10_putNumber_28 : decode cX10_putNumber 28 = .ok (.iadd, 1) := by decide +kernel
theorem dX10_putNumber_29 : decode cX10_putNumber 29 = .ok (.invokevirtual 157, 3) := by decide +kernel
theorem dX10_putNumber_32 : decode cX10_putNumber 32 = .ok (.return_, 1) := by decide +kernel
theorem dX10_isMissing_0 : decode cX10_isMissing 0 = .ok (.aload_n 0, 1) := by decide +kernel
theorem dX10_isMissing_1 : decode cX10_isMissing 1 = .ok (.getfield 9, 3) := by decide +kernel
theorem dX10_isMissing_4 : decode cX10_isMissing 4 = .ok (.iload_n 1, 1) := by decide +kernel
theorem dX10_isMissing_5 : decode cX10_isMissing 5 = .ok (.invokevirtual 171, 3) := by decide +kernel
theorem dX10_isMissing_8 : decode cX10_isMissing 8 = .ok (.ifCond .eq 34, 3) := by decide +kernel
theorem dX10_isMissing_11 : decode cX10_isMissing 11 = .ok (.aload_n 0, 1) := by decide +kernel
theorem dX10_isMissing_12 : decode cX10_isMissing 12 = .ok (.getfield 15, 3) := by decide +kernel
theorem dX10_isMissing_15 : decode cX10_isMissing 15 = .ok (.aload_n 0, 1) := by decide +kernel
theorem dX10_isMissing_16 : decode cX10_isMissing 16 = .ok (.getfield 9, 3) := by decide +kernel
theorem dX10_isMissing_19 : decode cX10_isMissing 19 = .ok (.getfield 72, 3) := by decide +kernel
theorem dX10_isMissing_22 : decode cX10_isMissing 22 = .ok (.iload_n 1, 1) := by decide +kernel
theorem dX10_isMissing_23 : decode cX10_isMissing 23 = .ok (.iaload, 1) := by decide +kernel
theorem dX10_isMissing_24 : decode cX10_isMissing 24 = .ok (.invokevirtual 75, 3) := by decide +kernel
theorem dX10_isMissing_27 : decode cX10_isMissing 27 = .ok (.ifCond .ne 15, 3) := by decide +kernel
theorem dX10_isMissing_30 : decode cX10_isMissing 30 = .ok (.aload_n 0, 1) := by decide +kernel
theorem dX10_isMissing_31 : decode cX10_isMissing 31 = .ok (.iload_n 1, 1) := by decide +kernel
theorem dX10_isMissing_32 : decode cX10_isMissing 32 = .ok (.invokevirtual 174, 3) := by decide +kernel
theorem dX10_isMissing_35 : decode cX10_isMissing 35 = .ok (.ifCond .eq 7, 3) := by decide +kernel
theorem dX10_isMissing_38 : decode cX10_isMissing 38 = .ok (.iconst 1, 1) := by decide +kernel
theorem dX10_isMissing_39 : decode cX10_isMissing 39 = .ok (.goto 4, 3) := by decide +kernel
theorem dX10_isMissing_42 : decode cX10_isMissing 42 = .ok (.iconst 0, 1) := by decide +kernel
theorem dX10_isMissing_43 : decode cX10_isMissing 43 = .ok (.ireturn, 1) := by decide +kernel
theorem dX10_missingOf_0 : decode cX10_missingOf 0 = .ok (.iconst 0, 1) := by decide +kernel
theorem dX10_missingOf_1 : decode cX10_missingOf 1 = .ok (.istore_n 2, 1) := by decide +kernel
theorem dX10_missingOf_2 : decode cX10_missingOf 2 = .ok (.iload_n 1, 1) := by decide +kernel
theorem dX10_missingOf_3 : decode cX10_missingOf 3 = .ok (.bipush 8, 2) := by decide +kernel
theorem dX10_missingOf_5 : decode cX10_missingOf 5 = .ok (.imul, 1) := by decide +kernel
theorem dX10_missingOf_6 : decode cX10_missingOf 6 = .ok (.istore_n 3, 1) := by decide +kernel
theorem dX10_missingOf_7 : decode cX10_missingOf 7 = .ok (.iload_n 3, 1) := by decide +kernel
theorem dX10_missingOf_8 : decode cX10_missingOf 8 = .ok (.istore 4, 2) := by decide +kernel
theorem dX10_missingOf_10 : decode cX10_missingOf 10 = .ok (.iload 4, 2) := by decide +kernel
theorem dX10_missingOf_12 : decode cX10_missingOf 12 = .ok (.iload_n 3, 1) := by decide +kernel
theorem dX10_missingOf_13 : decode cX10_missingOf 13 = .ok (.aload_n 0, 1) := by decide +kernel
theorem dX10_missingOf_14 : decode cX10_missingOf 14 = .ok (.getfield 9, 3) := by decide +kernel
theorem dX10_missingOf_17 : decode cX10_missingOf 17 = .ok (.getfield 53, 3) := by decide +kernel
theorem dX10_missingOf_20 : decode cX10_missingOf 20 = .ok (.iload_n 1, 1) := by decide +kernel
theorem dX10_missingOf_21 : decode cX10_missingOf 21 = .ok (.iaload, 1) := by decide +kernel
theorem dX10_missingOf_22 : decode cX10_missingOf 22 = .ok (.iadd, 1) := by decide +kernel
theorem dX10_missingOf_23 : decode cX10_missingOf 23 = .ok (.if_icmp .ge 21, 3) := by decide +kernel
theorem dX10_missingOf_26 : decode cX10_missingOf 26 = .ok (.aload_n 0, 1) := by decide +kernel
theorem dX10_missingOf_27 : decode cX10_missingOf 27 = .ok (.iload 4, 2) := by decide +kernel
theorem dX10_missingOf_29 : decode cX10_missingOf 29 = .ok (.invokevirtual 177, 3) := by decide +kernel
theorem dX10_missingOf_32 : decode cX10_missingOf 32 = .ok (.ifCond .eq 6, 3) := by decide +kernel
theorem dX10_missingOf_35 : decode cX10_missingOf 35 = .ok (.iinc 2 1, 3) := by decide +kernel
theorem dX10_missingOf_38 : decode cX10_missingOf 38 = .ok (.iinc 4 1, 3) := by decide +kernel
theorem dX10_missingOf_41 : decode cX10_missingOf 41 = .ok (.goto (-31), 3) := by decide +kernel
theorem dX10_missingOf_44 : decode cX10_missingOf 44 = .ok (.iload_n 2, 1) := by decide +kernel
theorem dX10_missingOf_45 : decode cX10_missingOf 45 = .ok (.ireturn, 1) := by decide +kernel
theorem dX10_missingItem_0 : decode cX10_missingItem 0 = .ok (.iconst 0, 1) := by decide +kernel
theorem dX10_missingItem_1 : decode cX10_missingItem 1 = .ok (.istore_n 3, 1) := by decide +kernel
theorem dX10_missingItem_2 : decode cX10_missingItem 2 = .ok (.iload_n 1, 1) := by decide +kernel
theorem dX10_missingItem_3 : decode cX10_missingItem 3 = .ok (.bipush 8, 2) := by decide +kernel
theorem dX10_missingItem_5 : decode cX10_missingItem 5 = .ok (.imul, 1) := by decide +kernel
theorem dX10_missingItem_6 : decode cX10_missingItem 6 = .ok (.istore 4, 2) := by decide +kernel
theorem dX10_missingItem_8 : decode cX10_missingItem 8 = .ok (.iload 4, 2) := by decide +kernel
theorem dX10_missingItem_10 : decode cX10_missingItem 10 = .ok (.istore 5, 2) := by decide +kernel
theorem dX10_missingItem_12 : decode cX10_missingItem 12 = .ok (.iload 5, 2) := by decide +kernel
theorem dX10_missingItem_14 : decode cX10_missingItem 14 = .ok (.iload 4, 2) := by decide +kernel
theorem dX10_missingItem_16 : decode cX10_missingItem 16 = .ok (.aload_n 0, 1) := by decide +kernel
theorem dX10_missingItem_17 : decode cX10_missingItem 17 = .ok (.getfield 9, 3) := by decide +kernel
theorem dX10_missingItem_20 : decode cX10_missingItem 20 = .ok (.getfield 53, 3) := by decide +kernel
theorem dX10_missingItem_23 : decode cX10_missingItem 23 = .ok (.iload_n 1, 1) := by decide +kernel
theorem dX10_missingItem_24 : decode cX10_missingItem 24 = .ok (.iaload, 1) := by decide +kernel
theorem dX10_missingItem_25 : decode cX10_missingItem 25 = .ok (.iadd, 1) := by decide +kernel
theorem dX10_missingItem_26 : decode cX10_missingItem 26 = .ok (.if_icmp .ge 29, 3) := by decide +kernel
theorem dX10_missingItem_29 : decode cX10_missingItem 29 = .ok (.aload_n 0, 1) := by decide +kernel
theorem dX10_missingItem_30 : decode cX10_missingItem 30 = .ok (.iload 5, 2) := by decide +kernel
theorem dX10_missingItem_32 : decode cX10_missingItem 32 = .ok (.invokevirtual 177, 3) := by decide +kernel
theorem dX10_missingItem_35 : decode cX10_missingItem 35 = .ok (.ifCond .eq 14, 3) := by decide +kernel
theorem dX10_missingItem_38 : decode cX10_missingItem 38 = .ok (.iload_n 3, 1) := by decide +kernel
theorem dX10_missingItem_39 : decode cX10_missingItem 39 = .ok (.iload_n 2, 1) := by decide +kernel
theorem dX10_missingItem_40 : decode cX10_missingItem 40 = .ok (.if_icmp .ne 6, 3) := by decide +kernel
theorem dX10_missingItem_43 : decode cX10_missingItem 43 = .ok (.iload 5, 2) := by decide +kernel
theorem dX10_missingItem_45 : decode cX10_missingItem 45 = .ok (.ireturn, 1) := by decide +kernel
theorem dX10_missingItem_46 : decode cX10_missingItem 46 = .ok (.iinc 3 1, 3) := by decide +kernel
theorem dX10_missingItem_49 : decode cX10_missingItem 49 = .ok (.iinc 5 1, 3) := by decide +kernel
theorem dX10_missingItem_52 : decode cX10_missingItem 52 = .ok (.goto (-40), 3) := by decide +kernel
theorem dX10_missingItem_55 : decode cX10_missingItem 55 = .ok (.iconst (-1), 1) := by decide +kernel
theorem dX10_missingItem_56 : decode cX10_missingItem 56 = .ok (.ireturn, 1) := by decide +kernel
theorem dX10_longest_0 : decode cX10_longest 0 = .ok (.iconst (-1), 1) := by decide +kernel
theorem dX10_longest_1 : decode cX10_longest 1 = .ok (.istore_n 1, 1) := by decide +kernel
theorem dX10_longest_2 : decode cX10_longest 2 = .ok (.iconst (-1), 1) := by decide +kernel
theorem dX10_longest_3 : decode cX10_longest 3 = .ok (.istore_n 2, 1) := by decide +kernel
theorem dX10_longest_4 : decode cX10_longest 4 = .ok (.iconst 0, 1) := by decide +kernel
theorem dX10_longest_5 : decode cX10_longest 5 = .ok (.istore_n 3, 1) := by decide +kernel
theorem dX10_longest_6 : decode cX10_longest 6 = .ok (.iload_n 3, 1) := by decide +kernel
theorem dX10_longest_7 : decode cX10_longest 7 = .ok (.aload_n 0, 1) := by decide +kernel
theorem dX10_longest_8 : decode cX10_longest 8 = .ok (.getfield 9, 3) := by decide +kernel
theorem dX10_longest_11 : decode cX10_longest 11 = .ok (.getfield 45, 3) := by decide +kernel
theorem dX10_longest_14 : decode cX10_longest 14 = .ok (.if_icmp .ge 27, 3) := by decide +kernel
theorem dX10_longest_17 : decode cX10_longest 17 = .ok (.aload_n 0, 1) := by decide +kernel
theorem dX10_longest_18 : decode cX10_longest 18 = .ok (.iload_n 3, 1) := by decide +kernel
theorem dX10_longest_19 : decode cX10_longest 19 = .ok (.invokevirtual 180, 3) := by decide +kernel
theorem dX10_longest_22 : decode cX10_longest 22 = .ok (.istore 4, 2) := by decide +kernel
theorem dX10_longest_24 : decode cX10_longest 24 = .ok (.iload 4, 2) := by decide +kernel
theorem dX10_longest_26 : decode cX10_longest 26 = .ok (.iload_n 2, 1) := by decide +kernel
theorem dX10_longest_27 : decode cX10_longest 27 = .ok (.if_icmp .le 8, 3) := by decide +kernel
theorem dX10_longest_30 : decode cX10_longest 30 = .ok (.iload_n 3, 1) := by decide +kernel
theorem dX10_longest_31 : decode cX10_longest 31 = .ok (.istore_n 1, 1) := by decide +kernel
theorem dX10_longest_32 : decode cX10_longest 32 = .ok (.iload 4, 2) := by decide +kernel
theorem dX10_longest_34 : decode cX10_longest 34 = .ok (.istore_n 2, 1) := by decide +kernel
theorem dX10_longest_35 : decode cX10_longest 35 = .ok (.iinc 3 1, 3) := by decide +kernel
theorem dX10_longest_38 : decode cX10_longest 38 = .ok (.goto (-32), 3) := by decide +kernel
theorem dX10_longest_41 : decode cX10_longest 41 = .ok (.iload_n 1, 1) := by decide +kernel
theorem dX10_longest_42 : decode cX10_longest 42 = .ok (.ireturn, 1) := by decide +kernel
theorem dX10_messagesWithWhy_0 : decode cX10_messagesWithWhy 0 = .ok (.iconst 0, 1) := by decide +kernel
theorem dX10_messagesWithWhy_1 : decode cX10_messagesWithWhy 1 = .ok (.istore_n 2, 1) := by decide +kernel
theorem dX10_messagesWithWhy_2 : decode cX10_messagesWithWhy 2 = .ok (.iconst 0, 1) := by decide +kernel
theorem dX10_messagesWithWhy_3 : decode cX10_messagesWithWhy 3 = .ok (.istore_n 3, 1) := by decide +kernel
theorem dX10_messagesWithWhy_4 : decode cX10_messagesWithWhy 4 = .ok (.iload_n 3, 1) := by decide +kernel
theorem dX10_messagesWithWhy_5 : decode cX10_messagesWithWhy 5 = .ok (.aload_n 0, 1) := by decide +kernel
theorem dX10_messagesWithWhy_6 : decode cX10_messagesWithWhy 6 = .ok (.getfield 9, 3) := by decide +kernel
theorem dX10_messagesWithWhy_9 : decode cX10_messagesWithWhy 9 = .ok (.getfield 45, 3) := by decide +kernel
theorem dX10_messagesWithWhy_12 : decode cX10_messagesWithWhy 12 = .ok (.if_icmp .ge 28, 3) := by decide +kernel
theorem dX10_messagesWithWhy_15 : decode cX10_messagesWithWhy 15 = .ok (.aload_n 0, 1) := by decide +kernel
theorem dX10_messagesWithWhy_16 : decode cX10_messagesWithWhy 16 = .ok (.iload_n 3, 1) := by decide +kernel
theorem dX10_messagesWithWhy_17 : decode cX10_messagesWithWhy 17 = .ok (.invokevirtual 49, 3) := by decide +kernel
theorem dX10_messagesWithWhy_20 : decode cX10_messagesWithWhy 20 = .ok (.ifCond .ne 14, 3) := by decide +kernel
theorem dX10_messagesWithWhy_23 : decode cX10_messagesWithWhy 23 = .ok (.aload_n 0, 1) := by decide +kernel
theorem dX10_messagesWithWhy_24 : decode cX10_messagesWithWhy 24 = .ok (.getfield 66, 3) := by decide +kernel
theorem dX10_messagesWithWhy_27 : decode cX10_messagesWithWhy 27 = .ok (.iload_n 1, 1) := by decide +kernel
theorem dX10_messagesWithWhy_28 : decode cX10_messagesWithWhy 28 = .ok (.if_icmp .ne 6, 3) := by decide +kernel
theorem dX10_messagesWithWhy_31 : decode cX10_messagesWithWhy 31 = .ok (.iinc 2 1, 3) := by decide +kernel
theorem dX10_messagesWithWhy_34 : decode cX10_messagesWithWhy 34 = .ok (.iinc 3 1, 3) := by decide +kernel
theorem dX10_messagesWithWhy_37 : decode cX10_messagesWithWhy 37 = .ok (.goto (-33), 3) := by decide +kernel
theorem dX10_messagesWithWhy_40 : decode cX10_messagesWithWhy 40 = .ok (.iload_n 2, 1) := by decide +kernel
theorem dX10_messagesWithWhy_41 : decode cX10_messagesWithWhy 41 = .ok (.ireturn, 1) := by decide +kernel
