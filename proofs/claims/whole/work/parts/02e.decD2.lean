theorem dX12_askedBy_17 : decode cX12_askedBy 17 = .ok (.iload_n 1, 1) := by decide +kernel
theorem dX12_askedBy_18 : decode cX12_askedBy 18 = .ok (.imul, 1) := by decide +kernel
theorem dX12_askedBy_19 : decode cX12_askedBy 19 = .ok (.iload_n 3, 1) := by decide +kernel
theorem dX12_askedBy_20 : decode cX12_askedBy 20 = .ok (.iadd, 1) := by decide +kernel
theorem dX12_askedBy_21 : decode cX12_askedBy 21 = .ok (.imul, 1) := by decide +kernel
theorem dX12_askedBy_22 : decode cX12_askedBy 22 = .ok (.istore 4, 2) := by decide +kernel
theorem dX12_askedBy_24 : decode cX12_askedBy 24 = .ok (.iload_n 2, 1) := by decide +kernel
theorem dX12_askedBy_25 : decode cX12_askedBy 25 = .ok (.aload_n 0, 1) := by decide +kernel
theorem dX12_askedBy_26 : decode cX12_askedBy 26 = .ok (.getfield 65, 3) := by decide +kernel
theorem dX12_askedBy_29 : decode cX12_askedBy 29 = .ok (.iload 4, 2) := by decide +kernel
theorem dX12_askedBy_31 : decode cX12_askedBy 31 = .ok (.iaload, 1) := by decide +kernel
theorem dX12_askedBy_32 : decode cX12_askedBy 32 = .ok (.ifCond .ne 7, 3) := by decide +kernel
theorem dX12_askedBy_35 : decode cX12_askedBy 35 = .ok (.iconst 0, 1) := by decide +kernel
theorem dX12_askedBy_36 : decode cX12_askedBy 36 = .ok (.goto 14, 3) := by decide +kernel
theorem dX12_askedBy_39 : decode cX12_askedBy 39 = .ok (.iconst 1, 1) := by decide +kernel
theorem dX12_askedBy_40 : decode cX12_askedBy 40 = .ok (.aload_n 0, 1) := by decide +kernel
theorem dX12_askedBy_41 : decode cX12_askedBy 41 = .ok (.getfield 65, 3) := by decide +kernel
theorem dX12_askedBy_44 : decode cX12_askedBy 44 = .ok (.iload 4, 2) := by decide +kernel
theorem dX12_askedBy_46 : decode cX12_askedBy 46 = .ok (.iconst 1, 1) := by decide +kernel
theorem dX12_askedBy_47 : decode cX12_askedBy 47 = .ok (.iadd, 1) := by decide +kernel
theorem dX12_askedBy_48 : decode cX12_askedBy 48 = .ok (.iaload, 1) := by decide +kernel
theorem dX12_askedBy_49 : decode cX12_askedBy 49 = .ok (.ishl, 1) := by decide +kernel
theorem dX12_askedBy_50 : decode cX12_askedBy 50 = .ok (.ior, 1) := by decide +kernel
theorem dX12_askedBy_51 : decode cX12_askedBy 51 = .ok (.istore_n 2, 1) := by decide +kernel
theorem dX12_askedBy_52 : decode cX12_askedBy 52 = .ok (.iload_n 2, 1) := by decide +kernel
theorem dX12_askedBy_53 : decode cX12_askedBy 53 = .ok (.aload_n 0, 1) := by decide +kernel
theorem dX12_askedBy_54 : decode cX12_askedBy 54 = .ok (.getfield 65, 3) := by decide +kernel
theorem dX12_askedBy_57 : decode cX12_askedBy 57 = .ok (.iload 4, 2) := by decide +kernel
theorem dX12_askedBy_59 : decode cX12_askedBy 59 = .ok (.iaload, 1) := by decide +kernel
theorem dX12_askedBy_60 : decode cX12_askedBy 60 = .ok (.iconst 5, 1) := by decide +kernel
theorem dX12_askedBy_61 : decode cX12_askedBy 61 = .ok (.if_icmp .lt 17, 3) := by decide +kernel
theorem dX12_askedBy_64 : decode cX12_askedBy 64 = .ok (.iconst 1, 1) := by decide +kernel
theorem dX12_askedBy_65 : decode cX12_askedBy 65 = .ok (.aload_n 0, 1) := by decide +kernel
theorem dX12_askedBy_66 : decode cX12_askedBy 66 = .ok (.getfield 65, 3) := by decide +kernel
theorem dX12_askedBy_69 : decode cX12_askedBy 69 = .ok (.iload 4, 2) := by decide +kernel
theorem dX12_askedBy_71 : decode cX12_askedBy 71 = .ok (.iconst 2, 1) := by decide +kernel
theorem dX12_askedBy_72 : decode cX12_askedBy 72 = .ok (.iadd, 1) := by decide +kernel
theorem dX12_askedBy_73 : decode cX12_askedBy 73 = .ok (.iaload, 1) := by decide +kernel
theorem dX12_askedBy_74 : decode cX12_askedBy 74 = .ok (.ishl, 1) := by decide +kernel
theorem dX12_askedBy_75 : decode cX12_askedBy 75 = .ok (.goto 4, 3) := by decide +kernel
theorem dX12_askedBy_78 : decode cX12_askedBy 78 = .ok (.iconst 0, 1) := by decide +kernel
theorem dX12_askedBy_79 : decode cX12_askedBy 79 = .ok (.ior, 1) := by decide +kernel
theorem dX12_askedBy_80 : decode cX12_askedBy 80 = .ok (.istore_n 2, 1) := by decide +kernel
theorem dX12_askedBy_81 : decode cX12_askedBy 81 = .ok (.iinc 3 1, 3) := by decide +kernel
theorem dX12_askedBy_84 : decode cX12_askedBy 84 = .ok (.goto (-80), 3) := by decide +kernel
theorem dX12_askedBy_87 : decode cX12_askedBy 87 = .ok (.iload_n 2, 1) := by decide +kernel
theorem dX12_askedBy_88 : decode cX12_askedBy 88 = .ok (.ireturn, 1) := by decide +kernel
theorem dX12_message_0 : decode cX12_message 0 = .ok (.aload_n 0, 1) := by decide +kernel
theorem dX12_message_1 : decode cX12_message 1 = .ok (.iload_n 1, 1) := by decide +kernel
theorem dX12_message_2 : decode cX12_message 2 = .ok (.invokevirtual 453, 3) := by decide +kernel
theorem dX12_message_5 : decode cX12_message 5 = .ok (.ifCond .eq 12, 3) := by decide +kernel
theorem dX12_message_8 : decode cX12_message 8 = .ok (.iload_n 2, 1) := by decide +kernel
theorem dX12_message_9 : decode cX12_message 9 = .ok (.iconst 0, 1) := by decide +kernel
theorem dX12_message_10 : decode cX12_message 10 = .ok (.iconst 3, 1) := by decide +kernel
theorem dX12_message_11 : decode cX12_message 11 = .ok (.invokestatic 100, 3) := by decide +kernel
theorem dX12_message_14 : decode cX12_message 14 = .ok (.ifCond .ne 5, 3) := by decide +kernel
theorem dX12_message_17 : decode cX12_message 17 = .ok (.iconst (-1), 1) := by decide +kernel
theorem dX12_message_18 : decode cX12_message 18 = .ok (.ireturn, 1) := by decide +kernel
theorem dX12_message_19 : decode cX12_message 19 = .ok (.iload_n 2, 1) := by decide +kernel
theorem dX12_message_20 : decode cX12_message 20 = .ok (.tableswitch 55 0 2 #[28, 35, 41], 28) := by decide +kernel
theorem dX12_message_48 : decode cX12_message 48 = .ok (.aload_n 0, 1) := by decide +kernel
theorem dX12_message_49 : decode cX12_message 49 = .ok (.getfield 62, 3) := by decide +kernel
theorem dX12_message_52 : decode cX12_message 52 = .ok (.iload_n 1, 1) := by decide +kernel
theorem dX12_message_53 : decode cX12_message 53 = .ok (.iaload, 1) := by decide +kernel
theorem dX12_message_54 : decode cX12_message 54 = .ok (.ireturn, 1) := by decide +kernel
theorem dX12_message_55 : decode cX12_message 55 = .ok (.aload_n 0, 1) := by decide +kernel
theorem dX12_message_56 : decode cX12_message 56 = .ok (.iload_n 1, 1) := by decide +kernel
theorem dX12_message_57 : decode cX12_message 57 = .ok (.invokevirtual 456, 3) := by decide +kernel
theorem dX12_message_60 : decode cX12_message 60 = .ok (.ireturn, 1) := by decide +kernel
theorem dX12_message_61 : decode cX12_message 61 = .ok (.aload_n 0, 1) := by decide +kernel
theorem dX12_message_62 : decode cX12_message 62 = .ok (.iload_n 1, 1) := by decide +kernel
theorem dX12_message_63 : decode cX12_message 63 = .ok (.invokevirtual 364, 3) := by decide +kernel
theorem dX12_message_66 : decode cX12_message 66 = .ok (.ifCond .eq 7, 3) := by decide +kernel
theorem dX12_message_69 : decode cX12_message 69 = .ok (.iconst 1, 1) := by decide +kernel
theorem dX12_message_70 : decode cX12_message 70 = .ok (.goto 4, 3) := by decide +kernel
theorem dX12_message_73 : decode cX12_message 73 = .ok (.iconst 0, 1) := by decide +kernel
theorem dX12_message_74 : decode cX12_message 74 = .ok (.ireturn, 1) := by decide +kernel
theorem dX12_message_75 : decode cX12_message 75 = .ok (.aload_n 0, 1) := by decide +kernel
theorem dX12_message_76 : decode cX12_message 76 = .ok (.iload_n 1, 1) := by decide +kernel
theorem dX12_message_77 : decode cX12_message 77 = .ok (.invokevirtual 364, 3) := by decide +kernel
theorem dX12_message_80 : decode cX12_message 80 = .ok (.ifCond .eq 10, 3) := by decide +kernel
theorem dX12_message_83 : decode cX12_message 83 = .ok (.aload_n 0, 1) := by decide +kernel
theorem dX12_message_84 : decode cX12_message 84 = .ok (.getfield 308, 3) := by decide +kernel
theorem dX12_message_87 : decode cX12_message 87 = .ok (.goto 4, 3) := by decide +kernel
theorem dX12_message_90 : decode cX12_message 90 = .ok (.iconst (-1), 1) := by decide +kernel
theorem dX12_message_91 : decode cX12_message 91 = .ok (.ireturn, 1) := by decide +kernel
theorem dX12_told__0 : decode cX12_told_ 0 = .ok (.aload_n 0, 1) := by decide +kernel
theorem dX12_told__1 : decode cX12_told_ 1 = .ok (.iload_n 1, 1) := by decide +kernel
theorem dX12_told__2 : decode cX12_told_ 2 = .ok (.invokevirtual 453, 3) := by decide +kernel
theorem dX12_told__5 : decode cX12_told_ 5 = .ok (.ifCond .eq 34, 3) := by decide +kernel
theorem dX12_told__8 : decode cX12_told_ 8 = .ok (.aload_n 0, 1) := by decide +kernel
theorem dX12_told__9 : decode cX12_told_ 9 = .ok (.iload_n 1, 1) := by decide +kernel
theorem dX12_told__10 : decode cX12_told_ 10 = .ok (.invokevirtual 364, 3) := by decide +kernel
theorem dX12_told__13 : decode cX12_told_ 13 = .ok (.ifCond .eq 26, 3) := by decide +kernel
theorem dX12_told__16 : decode cX12_told_ 16 = .ok (.iload_n 2, 1) := by decide +kernel
theorem dX12_told__17 : decode cX12_told_ 17 = .ok (.iconst 0, 1) := by decide +kernel
theorem dX12_told__18 : decode cX12_told_ 18 = .ok (.aload_n 0, 1) := by decide +kernel
theorem dX12_told__19 : decode cX12_told_ 19 = .ok (.getfield 308, 3) := by decide +kernel
theorem dX12_told__22 : decode cX12_told_ 22 = .ok (.iconst 1, 1) := by decide +kernel
theorem dX12_told__23 : decode cX12_told_ 23 = .ok (.isub, 1) := by decide +kernel
theorem dX12_told__24 : decode cX12_told_ 24 = .ok (.invokestatic 100, 3) := by decide +kernel
theorem dX12_told__27 : decode cX12_told_ 27 = .ok (.ifCond .eq 12, 3) := by decide +kernel
theorem dX12_told__30 : decode cX12_told_ 30 = .ok (.aload_n 0, 1) := by decide +kernel
theorem dX12_told__31 : decode cX12_told_ 31 = .ok (.getfield 71, 3) := by decide +kernel
theorem dX12_told__34 : decode cX12_told_ 34 = .ok (.iload_n 2, 1) := by decide +kernel
theorem dX12_told__35 : decode cX12_told_ 35 = .ok (.iaload, 1) := by decide +kernel
theorem dX12_told__36 : decode cX12_told_ 36 = .ok (.goto 4, 3) := by decide +kernel
theorem dX12_told__39 : decode cX12_told_ 39 = .ok (.iconst (-1), 1) := by decide +kernel
theorem dX12_told__40 : decode cX12_told_ 40 = .ok (.ireturn, 1) := by decide +kernel
theorem dX12_why_0 : decode cX12_why 0 = .ok (.aload_n 0, 1) := by decide +kernel
theorem dX12_why_1 : decode cX12_why 1 = .ok (.iload_n 1, 1) := by decide +kernel
theorem dX12_why_2 : decode cX12_why 2 = .ok (.invokevirtual 453, 3) := by decide +kernel
theorem dX12_why_5 : decode cX12_why 5 = .ok (.ifCond .eq 20, 3) := by decide +kernel
theorem dX12_why_8 : decode cX12_why 8 = .ok (.iload_n 2, 1) := by decide +kernel
theorem dX12_why_9 : decode cX12_why 9 = .ok (.iconst 0, 1) := by decide +kernel
theorem dX12_why_10 : decode cX12_why 10 = .ok (.iconst 2, 1) := by decide +kernel
theorem dX12_why_11 : decode cX12_why 11 = .ok (.invokestatic 100, 3) := by decide +kernel
theorem dX12_why_14 : decode cX12_why 14 = .ok (.ifCond .eq 11, 3) := by decide +kernel
theorem dX12_why_17 : decode cX12_why 17 = .ok (.aload_n 0, 1) := by decide +kernel
theorem dX12_why_18 : decode cX12_why 18 = .ok (.iload_n 1, 1) := by decide +kernel
theorem dX12_why_19 : decode cX12_why 19 = .ok (.invokevirtual 364, 3) := by decide +kernel
theorem dX12_why_22 : decode cX12_why 22 = .ok (.ifCond .eq 5, 3) := by decide +kernel
theorem dX12_why_25 : decode cX12_why 25 = .ok (.iconst (-1), 1) := by decide +kernel
theorem dX12_why_26 : decode cX12_why 26 = .ok (.ireturn, 1) := by decide +kernel
theorem dX12_why_27 : decode cX12_why 27 = .ok (.iload_n 2, 1) := by decide +kernel
theorem dX12_why_28 : decode cX12_why 28 = .ok (.ifCond .ne 10, 3) := by decide +kernel
theorem dX12_why_31 : decode cX12_why 31 = .ok (.aload_n 0, 1) := by decide +kernel
theorem dX12_why_32 : decode cX12_why 32 = .ok (.getfield 321, 3) := by decide +kernel
theorem dX12_why_35 : decode cX12_why 35 = .ok (.goto 19, 3) := by decide +kernel
theorem dX12_why_38 : decode cX12_why 38 = .ok (.iload_n 2, 1) := by decide +kernel
theorem dX12_why_39 : decode cX12_why 39 = .ok (.iconst 1, 1) := by decide +kernel
theorem dX12_why_40 : decode cX12_why 40 = .ok (.if_icmp .ne 10, 3) := by decide +kernel
theorem dX12_why_43 : decode cX12_why 43 = .ok (.aload_n 0, 1) := by decide +kernel
theorem dX12_why_44 : decode cX12_why 44 = .ok (.getfield 324, 3) := by decide +kernel
theorem dX12_why_47 : decode cX12_why 47 = .ok (.goto 7, 3) := by decide +kernel
theorem dX12_why_50 : decode cX12_why 50 = .ok (.aload_n 0, 1) := by decide +kernel
theorem dX12_why_51 : decode cX12_why 51 = .ok (.getfield 327, 3) := by decide +kernel
theorem dX12_why_54 : decode cX12_why 54 = .ok (.ireturn, 1) := by decide +kernel
theorem dX12_isFormItem_0 : decode cX12_isFormItem 0 = .ok (.aload_n 0, 1) := by decide +kernel
theorem dX12_isFormItem_1 : decode cX12_isFormItem 1 = .ok (.getfield 65, 3) := by decide +kernel
theorem dX12_isFormItem_4 : decode cX12_isFormItem 4 = .ok (.iconst 3, 1) := by decide +kernel
theorem dX12_isFormItem_5 : decode cX12_isFormItem 5 = .ok (.iload_n 1, 1) := by decide +kernel
theorem dX12_isFormItem_6 : decode cX12_isFormItem 6 = .ok (.imul, 1) := by decide +kernel
theorem dX12_isFormItem_7 : decode cX12_isFormItem 7 = .ok (.iaload, 1) := by decide +kernel
theorem dX12_isFormItem_8 : decode cX12_isFormItem 8 = .ok (.iconst 1, 1) := by decide +kernel
theorem dX12_isFormItem_9 : decode cX12_isFormItem 9 = .ok (.if_icmp .eq 15, 3) := by decide +kernel
theorem dX12_isFormItem_12 : decode cX12_isFormItem 12 = .ok (.aload_n 0, 1) := by decide +kernel
theorem dX12_isFormItem_13 : decode cX12_isFormItem 13 = .ok (.getfield 65, 3) := by decide +kernel
theorem dX12_isFormItem_16 : decode cX12_isFormItem 16 = .ok (.iconst 3, 1) := by decide +kernel
theorem dX12_isFormItem_17 : decode cX12_isFormItem 17 = .ok (.iload_n 1, 1) := by decide +kernel
theorem dX12_isFormItem_18 : decode cX12_isFormItem 18 = .ok (.imul, 1) := by decide +kernel
theorem dX12_isFormItem_19 : decode cX12_isFormItem 19 = .ok (.iaload, 1) := by decide +kernel
theorem dX12_isFormItem_20 : decode cX12_isFormItem 20 = .ok (.iconst 2, 1) := by decide +kernel
theorem dX12_isFormItem_21 : decode cX12_isFormItem 21 = .ok (.if_icmp .ne 7, 3) := by decide +kernel
theorem dX12_isFormItem_24 : decode cX12_isFormItem 24 = .ok (.iconst 1, 1) := by decide +kernel
theorem dX12_isFormItem_25 : decode cX12_isFormItem 25 = .ok (.goto 4, 3) := by decide +kernel
theorem dX12_isFormItem_28 : decode cX12_isFormItem 28 = .ok (.iconst 0, 1) := by decide +kernel
theorem dX12_isFormItem_29 : decode cX12_isFormItem 29 = .ok (.ireturn, 1) := by decide +kernel
theorem dX12_missingAt_0 : decode cX12_missingAt 0 = .ok (.aload_n 0, 1) := by decide +kernel
theorem dX12_missingAt_1 : decode cX12_missingAt 1 = .ok (.iload_n 1, 1) := by decide +kernel
theorem dX12_missingAt_2 : decode cX12_missingAt 2 = .ok (.invokevirtual 459, 3) := by decide +kernel
theorem dX12_missingAt_5 : decode cX12_missingAt 5 = .ok (.ifCond .eq 21, 3) := by decide +kernel
theorem dX12_missingAt_8 : decode cX12_missingAt 8 = .ok (.aload_n 0, 1) := by decide +kernel
theorem dX12_missingAt_9 : decode cX12_missingAt 9 = .ok (.aload_n 0, 1) := by decide +kernel
theorem dX12_missingAt_10 : decode cX12_missingAt 10 = .ok (.getfield 65, 3) := by decide +kernel
theorem dX12_missingAt_13 : decode cX12_missingAt 13 = .ok (.iconst 3, 1) := by decide +kernel
theorem dX12_missingAt_14 : decode cX12_missingAt 14 = .ok (.iload_n 1, 1) := by decide +kernel
theorem dX12_missingAt_15 : decode cX12_missingAt 15 = .ok (.imul, 1) := by decide +kernel
theorem dX12_missingAt_16 : decode cX12_missingAt 16 = .ok (.iconst 1, 1) := by decide +kernel
theorem dX12_missingAt_17 : decode cX12_missingAt 17 = .ok (.iadd, 1) := by decide +kernel
theorem dX12_missingAt_18 : decode cX12_missingAt 18 = .ok (.iaload, 1) := by decide +kernel
theorem dX12_missingAt_19 : decode cX12_missingAt 19 = .ok (.invokevirtual 330, 3) := by decide +kernel
theorem dX12_missingAt_22 : decode cX12_missingAt 22 = .ok (.iconst (-1), 1) := by decide +kernel
theorem dX12_missingAt_23 : decode cX12_missingAt 23 = .ok (.if_icmp .ne 5, 3) := by decide +kernel
theorem dX12_missingAt_26 : decode cX12_missingAt 26 = .ok (.iconst 0, 1) := by decide +kernel
theorem dX12_missingAt_27 : decode cX12_missingAt 27 = .ok (.ireturn, 1) := by decide +kernel
theorem dX12_missingAt_28 : decode cX12_missingAt 28 = .ok (.aload_n 0, 1) := by decide +kernel
theorem dX12_missingAt_29 : decode cX12_missingAt 29 = .ok (.getfield 65, 3) := by decide +kernel
theorem dX12_missingAt_32 : decode cX12_missingAt 32 = .ok (.iconst 3, 1) := by decide +kernel
theorem dX12_missingAt_33 : decode cX12_missingAt 33 = .ok (.iload_n 1, 1) := by decide +kernel
theorem dX12_missingAt_34 : decode cX12_missingAt 34 = .ok (.imul, 1) := by decide +kernel
theorem dX12_missingAt_35 : decode cX12_missingAt 35 = .ok (.iconst 1, 1) := by decide +kernel
theorem dX12_missingAt_36 : decode cX12_missingAt 36 = .ok (.iadd, 1) := by decide +kernel
theorem dX12_missingAt_37 : decode cX12_missingAt 37 = .ok (.iaload, 1) := by decide +kernel
theorem dX12_missingAt_38 : decode cX12_missingAt 38 = .ok (.istore_n 2, 1) := by decide +kernel
theorem dX12_missingAt_39 : decode cX12_missingAt 39 = .ok (.aload_n 0, 1) := by decide +kernel
theorem dX12_missingAt_40 : decode cX12_missingAt 40 = .ok (.aload_n 0, 1) := by decide +kernel
theorem dX12_missingAt_41 : decode cX12_missingAt 41 = .ok (.iload_n 2, 1) := by decide +kernel
theorem dX12_missingAt_42 : decode cX12_missingAt 42 = .ok (.invokevirtual 330, 3) := by decide +kernel
theorem dX12_missingAt_45 : decode cX12_missingAt 45 = .ok (.aload_n 0, 1) := by decide +kernel
theorem dX12_missingAt_46 : decode cX12_missingAt 46 = .ok (.getfield 65, 3) := by decide +kernel
theorem dX12_missingAt_49 : decode cX12_missingAt 49 = .ok (.iconst 3, 1) := by decide +kernel
theorem dX12_missingAt_50 : decode cX12_missingAt 50 = .ok (.iload_n 1, 1) := by decide +kernel
theorem dX12_missingAt_51 : decode cX12_missingAt 51 = .ok (.imul, 1) := by decide +kernel
theorem dX12_missingAt_52 : decode cX12_missingAt 52 = .ok (.iconst 2, 1) := by decide +kernel
theorem dX12_missingAt_53 : decode cX12_missingAt 53 = .ok (.iadd, 1) := by decide +kernel
theorem dX12_missingAt_54 : decode cX12_missingAt 54 = .ok (.iaload, 1) := by decide +kernel
theorem dX12_missingAt_55 : decode cX12_missingAt 55 = .ok (.aload_n 0, 1) := by decide +kernel
theorem dX12_missingAt_56 : decode cX12_missingAt 56 = .ok (.iload_n 2, 1) := by decide +kernel
theorem dX12_missingAt_57 : decode cX12_missingAt 57 = .ok (.invokevirtual 333, 3) := by decide +kernel
theorem dX12_missingAt_60 : decode cX12_missingAt 60 = .ok (.invokevirtual 300, 3) := by decide +kernel
theorem dX12_missingAt_63 : decode cX12_missingAt 63 = .ok (.ireturn, 1) := by decide +kernel
theorem dX12_missingOf_0 : decode cX12_missingOf 0 = .ok (.iconst 0, 1) := by decide +kernel
theorem dX12_missingOf_1 : decode cX12_missingOf 1 = .ok (.istore_n 2, 1) := by decide +kernel
theorem dX12_missingOf_2 : decode cX12_missingOf 2 = .ok (.iconst 0, 1) := by decide +kernel
theorem dX12_missingOf_3 : decode cX12_missingOf 3 = .ok (.istore_n 3, 1) := by decide +kernel
theorem dX12_missingOf_4 : decode cX12_missingOf 4 = .ok (.iload_n 3, 1) := by decide +kernel
theorem dX12_missingOf_5 : decode cX12_missingOf 5 = .ok (.aload_n 0, 1) := by decide +kernel
theorem dX12_missingOf_6 : decode cX12_missingOf 6 = .ok (.getfield 62, 3) := by decide +kernel
theorem dX12_missingOf_9 : decode cX12_missingOf 9 = .ok (.iload_n 1, 1) := by decide +kernel
theorem dX12_missingOf_10 : decode cX12_missingOf 10 = .ok (.iaload, 1) := by decide +kernel
theorem dX12_missingOf_11 : decode cX12_missingOf 11 = .ok (.if_icmp .ge 30, 3) := by decide +kernel
theorem dX12_missingOf_14 : decode cX12_missingOf 14 = .ok (.iload_n 2, 1) := by decide +kernel
theorem dX12_missingOf_15 : decode cX12_missingOf 15 = .ok (.aload_n 0, 1) := by decide +kernel
theorem dX12_missingOf_16 : decode cX12_missingOf 16 = .ok (.bipush 8, 2) := by decide +kernel
theorem dX12_missingOf_18 : decode cX12_missingOf 18 = .ok (.iload_n 1, 1) := by decide +kernel
theorem dX12_missingOf_19 : decode cX12_missingOf 19 = .ok (.imul, 1) := by decide +kernel
theorem dX12_missingOf_20 : decode cX12_missingOf 20 = .ok (.iload_n 3, 1) := by decide +kernel
theorem dX12_missingOf_21 : decode cX12_missingOf 21 = .ok (.iadd, 1) := by decide +kernel
theorem dX12_missingOf_22 : decode cX12_missingOf 22 = .ok (.invokevirtual 462, 3) := by decide +kernel
theorem dX12_missingOf_25 : decode cX12_missingOf 25 = .ok (.ifCond .le 7, 3) := by decide +kernel
theorem dX12_missingOf_28 : decode cX12_missingOf 28 = .ok (.iconst 1, 1) := by decide +kernel
theorem dX12_missingOf_29 : decode cX12_missingOf 29 = .ok (.goto 4, 3) := by decide +kernel
theorem dX12_missingOf_32 : decode cX12_missingOf 32 = .ok (.iconst 0, 1) := by decide +kernel
theorem dX12_missingOf_33 : decode cX12_missingOf 33 = .ok (.iadd, 1) := by decide +kernel
theorem dX12_missingOf_34 : decode cX12_missingOf 34 = .ok (.istore_n 2, 1) := by decide +kernel
theorem dX12_missingOf_35 : decode cX12_missingOf 35 = .ok (.iinc 3 1, 3) := by decide +kernel
theorem dX12_missingOf_38 : decode cX12_missingOf 38 = .ok (.goto (-34), 3) := by decide +kernel
theorem dX12_missingOf_41 : decode cX12_missingOf 41 = .ok (.iload_n 2, 1) := by decide +kernel
theorem dX12_missingOf_42 : decode cX12_missingOf 42 = .ok (.ireturn, 1) := by decide +kernel
theorem dX12_missing_0 : decode cX12_missing 0 = .ok (.aload_n 0, 1) := by decide +kernel
theorem dX12_missing_1 : decode cX12_missing 1 = .ok (.iload_n 1, 1) := by decide +kernel
theorem dX12_missing_2 : decode cX12_missing 2 = .ok (.invokevirtual 453, 3) := by decide +kernel
theorem dX12_missing_5 : decode cX12_missing 5 = .ok (.ifCond .ne 5, 3) := by decide +kernel
theorem dX12_missing_8 : decode cX12_missing 8 = .ok (.iconst (-1), 1) := by decide +kernel
theorem dX12_missing_9 : decode cX12_missing 9 = .ok (.ireturn, 1) := by decide +kernel
theorem dX12_missing_10 : decode cX12_missing 10 = .ok (.iload_n 2, 1) := by decide +kernel
theorem dX12_missing_11 : decode cX12_missing 11 = .ok (.iconst (-1), 1) := by decide +kernel
theorem dX12_missing_12 : decode cX12_missing 12 = .ok (.if_icmp .ne 9, 3) := by decide +kernel
theorem dX12_missing_15 : decode cX12_missing 15 = .ok (.aload_n 0, 1) := by decide +kernel
theorem dX12_missing_16 : decode cX12_missing 16 = .ok (.iload_n 1, 1) := by decide +kernel
theorem dX12_missing_17 : decode cX12_missing 17 = .ok (.invokevirtual 465, 3) := by decide +kernel
theorem dX12_missing_20 : decode cX12_missing 20 = .ok (.ireturn, 1) := by decide +kernel
theorem dX12_missing_21 : decode cX12_missing 21 = .ok (.iconst 0, 1) := by decide +kernel
theorem dX12_missing_22 : decode cX12_missing 22 = .ok (.istore 4, 2) := by decide +kernel
theorem dX12_missing_24 : decode cX12_missing 24 = .ok (.bipush 8, 2) := by decide +kernel
theorem dX12_missing_26 : decode cX12_missing 26 = .ok (.iload_n 1, 1) := by decide +kernel
theorem dX12_missing_27 : decode cX12_missing 27 = .ok (.imul, 1) := by decide +kernel
theorem dX12_missing_28 : decode cX12_missing 28 = .ok (.istore 5, 2) := by decide +kernel
theorem dX12_missing_30 : decode cX12_missing 30 = .ok (.iload 5, 2) := by decide +kernel
theorem dX12_missing_32 : decode cX12_missing 32 = .ok (.bipush 8, 2) := by decide +kernel
theorem dX12_missing_34 : decode cX12_missing 34 = .ok (.iload_n 1, 1) := by decide +kernel
theorem dX12_missing_35 : decode cX12_missing 35 = .ok (.imul, 1) := by decide +kernel
theorem dX12_missing_36 : decode cX12_missing 36 = .ok (.aload_n 0, 1) := by decide +kernel
theorem dX12_missing_37 : decode cX12_missing 37 = .ok (.getfield 62, 3) := by decide +kernel
theorem dX12_missing_40 : decode cX12_missing 40 = .ok (.iload_n 1, 1) := by decide +kernel
theorem dX12_missing_41 : decode cX12_missing 41 = .ok (.iaload, 1) := by decide +kernel
theorem dX12_missing_42 : decode cX12_missing 42 = .ok (.iadd, 1) := by decide +kernel
theorem dX12_missing_43 : decode cX12_missing 43 = .ok (.if_icmp .ge 114, 3) := by decide +kernel
theorem dX12_missing_46 : decode cX12_missing 46 = .ok (.iload_n 3, 1) := by decide +kernel
theorem dX12_missing_47 : decode cX12_missing 47 = .ok (.iconst 0, 1) := by decide +kernel
theorem dX12_missing_48 : decode cX12_missing 48 = .ok (.iconst 3, 1) := by decide +kernel
theorem dX12_missing_49 : decode cX12_missing 49 = .ok (.invokestatic 100, 3) := by decide +kernel
theorem dX12_missing_52 : decode cX12_missing 52 = .ok (.ifCond .eq 105, 3) := by decide +kernel
theorem dX12_missing_55 : decode cX12_missing 55 = .ok (.aload_n 0, 1) := by decide +kernel
theorem dX12_missing_56 : decode cX12_missing 56 = .ok (.iload 5, 2) := by decide +kernel
theorem dX12_missing_58 : decode cX12_missing 58 = .ok (.invokevirtual 462, 3) := by decide +kernel
theorem dX12_missing_61 : decode cX12_missing 61 = .ok (.istore 6, 2) := by decide +kernel
theorem dX12_missing_63 : decode cX12_missing 63 = .ok (.iload 6, 2) := by decide +kernel
theorem dX12_missing_65 : decode cX12_missing 65 = .ok (.ifCond .le 71, 3) := by decide +kernel
theorem dX12_missing_68 : decode cX12_missing 68 = .ok (.iload 4, 2) := by decide +kernel
theorem dX12_missing_70 : decode cX12_missing 70 = .ok (.iload_n 2, 1) := by decide +kernel
theorem dX12_missing_71 : decode cX12_missing 71 = .ok (.if_icmp .ne 65, 3) := by decide +kernel
theorem dX12_missing_74 : decode cX12_missing 74 = .ok (.aload_n 0, 1) := by decide +kernel
theorem dX12_missing_75 : decode cX12_missing 75 = .ok (.getfield 65, 3) := by decide +kernel
theorem dX12_missing_78 : decode cX12_missing 78 = .ok (.iconst 3, 1) := by decide +kernel
theorem dX12_missing_79 : decode cX12_missing 79 = .ok (.iload 5, 2) := by decide +kernel
theorem dX12_missing_81 : decode cX12_missing 81 = .ok (.imul, 1) := by decide +kernel
theorem dX12_missing_82 : decode cX12_missing 82 = .ok (.iconst 1, 1) := by decide +kernel
theorem dX12_missing_83 : decode cX12_missing 83 = .ok (.iadd, 1) := by decide +kernel
theorem dX12_missing_84 : decode cX12_missing 84 = .ok (.iaload, 1) := by decide +kernel
theorem dX12_missing_85 : decode cX12_missing 85 = .ok (.istore 7, 2) := by decide +kernel
theorem dX12_missing_87 : decode cX12_missing 87 = .ok (.iload_n 3, 1) := by decide +kernel
theorem dX12_missing_88 : decode cX12_missing 88 = .ok (.ifCond .ne 12, 3) := by decide +kernel
theorem dX12_missing_91 : decode cX12_missing 91 = .ok (.aload_n 0, 1) := by decide +kernel
theorem dX12_missing_92 : decode cX12_missing 92 = .ok (.iload 7, 2) := by decide +kernel
theorem dX12_missing_94 : decode cX12_missing 94 = .ok (.invokevirtual 330, 3) := by decide +kernel
theorem dX12_missing_97 : decode cX12_missing 97 = .ok (.goto 38, 3) := by decide +kernel
theorem dX12_missing_100 : decode cX12_missing 100 = .ok (.iload_n 3, 1) := by decide +kernel
theorem dX12_missing_101 : decode cX12_missing 101 = .ok (.iconst 1, 1) := by decide +kernel
theorem dX12_missing_102 : decode cX12_missing 102 = .ok (.if_icmp .ne 17, 3) := by decide +kernel
theorem dX12_missing_105 : decode cX12_missing 105 = .ok (.aload_n 0, 1) := by decide +kernel
theorem dX12_missing_106 : decode cX12_missing 106 = .ok (.getfield 65, 3) := by decide +kernel
theorem dX12_missing_109 : decode cX12_missing 109 = .ok (.iconst 3, 1) := by decide +kernel
theorem dX12_missing_110 : decode cX12_missing 110 = .ok (.iload 5, 2) := by decide +kernel
theorem dX12_missing_112 : decode cX12_missing 112 = .ok (.imul, 1) := by decide +kernel
theorem dX12_missing_113 : decode cX12_missing 113 = .ok (.iconst 2, 1) := by decide +kernel
theorem dX12_missing_114 : decode cX12_missing 114 = .ok (.iadd, 1) := by decide +kernel
theorem dX12_missing_115 : decode cX12_missing 115 = .ok (.iaload, 1) := by decide +kernel
theorem dX12_missing_116 : decode cX12_missing 116 = .ok (.goto 19, 3) := by decide +kernel
theorem dX12_missing_119 : decode cX12_missing 119 = .ok (.iload_n 3, 1) := by decide +kernel
theorem dX12_missing_120 : decode cX12_missing 120 = .ok (.iconst 2, 1) := by decide +kernel
theorem dX12_missing_121 : decode cX12_missing 121 = .ok (.if_icmp .ne 12, 3) := by decide +kernel
theorem dX12_missing_124 : decode cX12_missing 124 = .ok (.aload_n 0, 1) := by decide +kernel
theorem dX12_missing_125 : decode cX12_missing 125 = .ok (.iload 7, 2) := by decide +kernel
theorem dX12_missing_127 : decode cX12_missing 127 = .ok (.invokevirtual 333, 3) := by decide +kernel
theorem dX12_missing_130 : decode cX12_missing 130 = .ok (.goto 5, 3) := by decide +kernel
theorem dX12_missing_133 : decode cX12_missing 133 = .ok (.iload 6, 2) := by decide +kernel
theorem dX12_missing_135 : decode cX12_missing 135 = .ok (.ireturn, 1) := by decide +kernel
theorem dX12_missing_136 : decode cX12_missing 136 = .ok (.iload 4, 2) := by decide +kernel
theorem dX12_missing_138 : decode cX12_missing 138 = .ok (.iload 6, 2) := by decide +kernel
theorem dX12_missing_140 : decode cX12_missing 140 = .ok (.ifCond .le 7, 3) := by decide +kernel
theorem dX12_missing_143 : decode cX12_missing 143 = .ok (.iconst 1, 1) := by decide +kernel
theorem dX12_missing_144 : decode cX12_missing 144 = .ok (.goto 4, 3) := by decide +kernel
theorem dX12_missing_147 : decode cX12_missing 147 = .ok (.iconst 0, 1) := by decide +kernel
theorem dX12_missing_148 : decode cX12_missing 148 = .ok (.iadd, 1) := by decide +kernel
theorem dX12_missing_149 : decode cX12_missing 149 = .ok (.istore 4, 2) := by decide +kernel
theorem dX12_missing_151 : decode cX12_missing 151 = .ok (.iinc 5 1, 3) := by decide +kernel
theorem dX12_missing_154 : decode cX12_missing 154 = .ok (.goto (-124), 3) := by decide +kernel
theorem dX12_missing_157 : decode cX12_missing 157 = .ok (.iconst (-1), 1) := by decide +kernel
theorem dX12_missing_158 : decode cX12_missing 158 = .ok (.ireturn, 1) := by decide +kernel
theorem dX12_bare_0 : decode cX12_bare 0 = .ok (.aload_n 0, 1) := by decide +kernel
theorem dX12_bare_1 : decode cX12_bare 1 = .ok (.iload_n 1, 1) := by decide +kernel
theorem dX12_bare_2 : decode cX12_bare 2 = .ok (.invokevirtual 376, 3) := by decide +kernel
theorem dX12_bare_5 : decode cX12_bare 5 = .ok (.ifCond .ne 5, 3) := by decide +kernel
theorem dX12_bare_8 : decode cX12_bare 8 = .ok (.iconst (-1), 1) := by decide +kernel
theorem dX12_bare_9 : decode cX12_bare 9 = .ok (.ireturn, 1) := by decide +kernel
theorem dX12_bare_10 : decode cX12_bare 10 = .ok (.iconst 0, 1) := by decide +kernel
theorem dX12_bare_11 : decode cX12_bare 11 = .ok (.istore_n 2, 1) := by decide +kernel
theorem dX12_bare_12 : decode cX12_bare 12 = .ok (.iconst 0, 1) := by decide +kernel
theorem dX12_bare_13 : decode cX12_bare 13 = .ok (.istore_n 3, 1) := by decide +kernel
theorem dX12_bare_14 : decode cX12_bare 14 = .ok (.iload_n 3, 1) := by decide +kernel
theorem dX12_bare_15 : decode cX12_bare 15 = .ok (.bipush 8, 2) := by decide +kernel
theorem dX12_bare_17 : decode cX12_bare 17 = .ok (.if_icmp .ge 38, 3) := by decide +kernel
theorem dX12_bare_20 : decode cX12_bare 20 = .ok (.iload_n 2, 1) := by decide +kernel
theorem dX12_bare_21 : decode cX12_bare 21 = .ok (.aload_n 0, 1) := by decide +kernel
theorem dX12_bare_22 : decode cX12_bare 22 = .ok (.getfield 47, 3) := by decide +kernel
theorem dX12_bare_25 : decode cX12_bare 25 = .ok (.bipush 7, 2) := by decide +kernel
theorem dX12_bare_27 : decode cX12_bare 27 = .ok (.bipush 8, 2) := by decide +kernel
theorem dX12_bare_29 : decode cX12_bare 29 = .ok (.iload_n 1, 1) := by decide +kernel
theorem dX12_bare_30 : decode cX12_bare 30 = .ok (.imul, 1) := by decide +kernel
theorem dX12_bare_31 : decode cX12_bare 31 = .ok (.iadd, 1) := by decide +kernel
theorem dX12_bare_32 : decode cX12_bare 32 = .ok (.iload_n 3, 1) := by decide +kernel
theorem dX12_bare_33 : decode cX12_bare 33 = .ok (.iadd, 1) := by decide +kernel
theorem dX12_bare_34 : decode cX12_bare 34 = .ok (.laload, 1) := by decide +kernel
theorem dX12_bare_35 : decode cX12_bare 35 = .ok (.lconst 0, 1) := by decide +kernel
theorem dX12_bare_36 : decode cX12_bare 36 = .ok (.lcmp, 1) := by decide +kernel
theorem dX12_bare_37 : decode cX12_bare 37 = .ok (.ifCond .ne 9, 3) := by decide +kernel
theorem dX12_bare_40 : decode cX12_bare 40 = .ok (.iconst 1, 1) := by decide +kernel
theorem dX12_bare_41 : decode cX12_bare 41 = .ok (.iload_n 3, 1) := by decide +kernel
theorem dX12_bare_42 : decode cX12_bare 42 = .ok (.ishl, 1) := by decide +kernel
theorem dX12_bare_43 : decode cX12_bare 43 = .ok (.goto 4, 3) := by decide +kernel
theorem dX12_bare_46 : decode cX12_bare 46 = .ok (.iconst 0, 1) := by decide +kernel
theorem dX12_bare_47 : decode cX12_bare 47 = .ok (.ior, 1) := by decide +kernel
theorem dX12_bare_48 : decode cX12_bare 48 = .ok (.istore_n 2, 1) := by decide +kernel
theorem dX12_bare_49 : decode cX12_bare 49 = .ok (.iinc 3 1, 3) := by decide +kernel
theorem dX12_bare_52 : decode cX12_bare 52 = .ok (.goto (-38), 3) := by decide +kernel
theorem dX12_bare_55 : decode cX12_bare 55 = .ok (.iload_n 2, 1) := by decide +kernel
theorem dX12_bare_56 : decode cX12_bare 56 = .ok (.ireturn, 1) := by decide +kernel
theorem dX12_fitsNoun_0 : decode cX12_fitsNoun 0 = .ok (.bipush 8, 2) := by decide +kernel
theorem dX12_fitsNoun_2 : decode cX12_fitsNoun 2 = .ok (.iload_n 1, 1) := by decide +kernel
theorem dX12_fitsNoun_3 : decode cX12_fitsNoun 3 = .ok (.imul, 1) := by decide +kernel
theorem dX12_fitsNoun_4 : decode cX12_fitsNoun 4 = .ok (.istore 4, 2) := by decide +kernel
theorem dX12_fitsNoun_6 : decode cX12_fitsNoun 6 = .ok (.iload 4, 2) := by decide +kernel
theorem dX12_fitsNoun_8 : decode cX12_fitsNoun 8 = .ok (.bipush 8, 2) := by decide +kernel
theorem dX12_fitsNoun_10 : decode cX12_fitsNoun 10 = .ok (.iload_n 1, 1) := by decide +kernel
theorem dX12_fitsNoun_11 : decode cX12_fitsNoun 11 = .ok (.imul, 1) := by decide +kernel
theorem dX12_fitsNoun_12 : decode cX12_fitsNoun 12 = .ok (.aload_n 0, 1) := by decide +kernel
theorem dX12_fitsNoun_13 : decode cX12_fitsNoun 13 = .ok (.getfield 62, 3) := by decide +kernel
theorem dX12_fitsNoun_16 : decode cX12_fitsNoun 16 = .ok (.iload_n 1, 1) := by decide +kernel
theorem dX12_fitsNoun_17 : decode cX12_fitsNoun 17 = .ok (.iaload, 1) := by decide +kernel
theorem dX12_fitsNoun_18 : decode cX12_fitsNoun 18 = .ok (.iadd, 1) := by decide +kernel
theorem dX12_fitsNoun_19 : decode cX12_fitsNoun 19 = .ok (.if_icmp .ge 71, 3) := by decide +kernel
theorem dX12_fitsNoun_22 : decode cX12_fitsNoun 22 = .ok (.aload_n 0, 1) := by decide +kernel
theorem dX12_fitsNoun_23 : decode cX12_fitsNoun 23 = .ok (.iload 4, 2) := by decide +kernel
theorem dX12_fitsNoun_25 : decode cX12_fitsNoun 25 = .ok (.invokevirtual 459, 3) := by decide +kernel
theorem dX12_fitsNoun_28 : decode cX12_fitsNoun 28 = .ok (.ifCond .eq 56, 3) := by decide +kernel
theorem dX12_fitsNoun_31 : decode cX12_fitsNoun 31 = .ok (.aload_n 0, 1) := by decide +kernel
theorem dX12_fitsNoun_32 : decode cX12_fitsNoun 32 = .ok (.getfield 65, 3) := by decide +kernel
theorem dX12_fitsNoun_35 : decode cX12_fitsNoun 35 = .ok (.iconst 3, 1) := by decide +kernel
theorem dX12_fitsNoun_36 : decode cX12_fitsNoun 36 = .ok (.iload 4, 2) := by decide +kernel
theorem dX12_fitsNoun_38 : decode cX12_fitsNoun 38 = .ok (.imul, 1) := by decide +kernel
theorem dX12_fitsNoun_39 : decode cX12_fitsNoun 39 = .ok (.iconst 1, 1) := by decide +kernel
theorem dX12_fitsNoun_40 : decode cX12_fitsNoun 40 = .ok (.iadd, 1) := by decide +kernel
theorem dX12_fitsNoun_41 : decode cX12_fitsNoun 41 = .ok (.iaload, 1) := by decide +kernel
theorem dX12_fitsNoun_42 : decode cX12_fitsNoun 42 = .ok (.iload_n 2, 1) := by decide +kernel
theorem dX12_fitsNoun_43 : decode cX12_fitsNoun 43 = .ok (.if_icmp .ne 41, 3) := by decide +kernel
theorem dX12_fitsNoun_46 : decode cX12_fitsNoun 46 = .ok (.iconst 0, 1) := by decide +kernel
theorem dX12_fitsNoun_47 : decode cX12_fitsNoun 47 = .ok (.istore 5, 2) := by decide +kernel
theorem dX12_fitsNoun_49 : decode cX12_fitsNoun 49 = .ok (.iload 5, 2) := by decide +kernel
theorem dX12_fitsNoun_51 : decode cX12_fitsNoun 51 = .ok (.iconst 2, 1) := by decide +kernel
theorem dX12_fitsNoun_52 : decode cX12_fitsNoun 52 = .ok (.if_icmp .ge 32, 3) := by decide +kernel
theorem dX12_fitsNoun_55 : decode cX12_fitsNoun 55 = .ok (.aload_n 0, 1) := by decide +kernel
theorem dX12_fitsNoun_56 : decode cX12_fitsNoun 56 = .ok (.iload_n 3, 1) := by decide +kernel
theorem dX12_fitsNoun_57 : decode cX12_fitsNoun 57 = .ok (.aload_n 0, 1) := by decide +kernel
theorem dX12_fitsNoun_58 : decode cX12_fitsNoun 58 = .ok (.getfield 65, 3) := by decide +kernel
theorem dX12_fitsNoun_61 : decode cX12_fitsNoun 61 = .ok (.iconst 3, 1) := by decide +kernel
theorem dX12_fitsNoun_62 : decode cX12_fitsNoun 62 = .ok (.iload 4, 2) := by decide +kernel
theorem dX12_fitsNoun_64 : decode cX12_fitsNoun 64 = .ok (.imul, 1) := by decide +kernel
theorem dX12_fitsNoun_65 : decode cX12_fitsNoun 65 = .ok (.iconst 2, 1) := by decide +kernel
theorem dX12_fitsNoun_66 : decode cX12_fitsNoun 66 = .ok (.iadd, 1) := by decide +kernel
theorem dX12_fitsNoun_67 : decode cX12_fitsNoun 67 = .ok (.iaload, 1) := by decide +kernel
theorem dX12_fitsNoun_68 : decode cX12_fitsNoun 68 = .ok (.iload 5, 2) := by decide +kernel
theorem dX12_fitsNoun_70 : decode cX12_fitsNoun 70 = .ok (.invokevirtual 300, 3) := by decide +kernel
theorem dX12_fitsNoun_73 : decode cX12_fitsNoun 73 = .ok (.ifCond .le 5, 3) := by decide +kernel
theorem dX12_fitsNoun_76 : decode cX12_fitsNoun 76 = .ok (.iconst 0, 1) := by decide +kernel
theorem dX12_fitsNoun_77 : decode cX12_fitsNoun 77 = .ok (.ireturn, 1) := by decide +kernel
theorem dX12_fitsNoun_78 : decode cX12_fitsNoun 78 = .ok (.iinc 5 1, 3) := by decide +kernel
theorem dX12_fitsNoun_81 : decode cX12_fitsNoun 81 = .ok (.goto (-32), 3) := by decide +kernel
theorem dX12_fitsNoun_84 : decode cX12_fitsNoun 84 = .ok (.iinc 4 1, 3) := by decide +kernel
theorem dX12_fitsNoun_87 : decode cX12_fitsNoun 87 = .ok (.goto (-81), 3) := by decide +kernel
theorem dX12_fitsNoun_90 : decode cX12_fitsNoun 90 = .ok (.iconst 1, 1) := by decide +kernel
theorem dX12_fitsNoun_91 : decode cX12_fitsNoun 91 = .ok (.ireturn, 1) := by decide +kernel
theorem dX12_fits_0 : decode cX12_fits 0 = .ok (.aload_n 0, 1) := by decide +kernel
theorem dX12_fits_1 : decode cX12_fits 1 = .ok (.iload_n 1, 1) := by decide +kernel
theorem dX12_fits_2 : decode cX12_fits 2 = .ok (.invokevirtual 453, 3) := by decide +kernel
theorem dX12_fits_5 : decode cX12_fits 5 = .ok (.ifCond .eq 11, 3) := by decide +kernel
theorem dX12_fits_8 : decode cX12_fits 8 = .ok (.aload_n 0, 1) := by decide +kernel
theorem dX12_fits_9 : decode cX12_fits 9 = .ok (.iload_n 2, 1) := by decide +kernel
theorem dX12_fits_10 : decode cX12_fits 10 = .ok (.invokevirtual 373, 3) := by decide +kernel
theorem dX12_fits_13 : decode cX12_fits 13 = .ok (.ifCond .ne 5, 3) := by decide +kernel
theorem dX12_fits_16 : decode cX12_fits 16 = .ok (.iconst (-1), 1) := by decide +kernel
theorem dX12_fits_17 : decode cX12_fits 17 = .ok (.ireturn, 1) := by decide +kernel
theorem dX12_fits_18 : decode cX12_fits 18 = .ok (.iconst 0, 1) := by decide +kernel
theorem dX12_fits_19 : decode cX12_fits 19 = .ok (.istore_n 3, 1) := by decide +kernel
theorem dX12_fits_20 : decode cX12_fits 20 = .ok (.iconst 0, 1) := by decide +kernel
theorem dX12_fits_21 : decode cX12_fits 21 = .ok (.istore 4, 2) := by decide +kernel
theorem dX12_fits_23 : decode cX12_fits 23 = .ok (.iload 4, 2) := by decide +kernel
theorem dX12_fits_25 : decode cX12_fits 25 = .ok (.aload_n 0, 1) := by decide +kernel
theorem dX12_fits_26 : decode cX12_fits 26 = .ok (.getfield 269, 3) := by decide +kernel
theorem dX12_fits_29 : decode cX12_fits 29 = .ok (.if_icmp .ge 31, 3) := by decide +kernel
theorem dX12_fits_32 : decode cX12_fits 32 = .ok (.iload_n 3, 1) := by decide +kernel
theorem dX12_fits_33 : decode cX12_fits 33 = .ok (.aload_n 0, 1) := by decide +kernel
theorem dX12_fits_34 : decode cX12_fits 34 = .ok (.iload_n 1, 1) := by decide +kernel
theorem dX12_fits_35 : decode cX12_fits 35 = .ok (.iload_n 2, 1) := by decide +kernel
theorem dX12_fits_36 : decode cX12_fits 36 = .ok (.iload 4, 2) := by decide +kernel
theorem dX12_fits_38 : decode cX12_fits 38 = .ok (.invokevirtual 468, 3) := by decide +kernel
theorem dX12_fits_41 : decode cX12_fits 41 = .ok (.ifCond .eq 10, 3) := by decide +kernel
theorem dX12_fits_44 : decode cX12_fits 44 = .ok (.iconst 1, 1) := by decide +kernel
theorem dX12_fits_45 : decode cX12_fits 45 = .ok (.iload 4, 2) := by decide +kernel
theorem dX12_fits_47 : decode cX12_fits 47 = .ok (.ishl, 1) := by decide +kernel
theorem dX12_fits_48 : decode cX12_fits 48 = .ok (.goto 4, 3) := by decide +kernel
theorem dX12_fits_51 : decode cX12_fits 51 = .ok (.iconst 0, 1) := by decide +kernel
theorem dX12_fits_52 : decode cX12_fits 52 = .ok (.ior, 1) := by decide +kernel
theorem dX12_fits_53 : decode cX12_fits 53 = .ok (.istore_n 3, 1) := by decide +kernel
theorem dX12_fits_54 : decode cX12_fits 54 = .ok (.iinc 4 1, 3) := by decide +kernel
theorem dX12_fits_57 : decode cX12_fits 57 = .ok (.goto (-34), 3) := by decide +kernel
theorem dX12_fits_60 : decode cX12_fits 60 = .ok (.iload_n 3, 1) := by decide +kernel
theorem dX12_fits_61 : decode cX12_fits 61 = .ok (.ireturn, 1) := by decide +kernel
theorem dX12_needs_0 : decode cX12_needs 0 = .ok (.aload_n 0, 1) := by decide +kernel
theorem dX12_needs_1 : decode cX12_needs 1 = .ok (.iload_n 1, 1) := by decide +kernel
theorem dX12_needs_2 : decode cX12_needs 2 = .ok (.invokevirtual 453, 3) := by decide +kernel
theorem dX12_needs_5 : decode cX12_needs 5 = .ok (.ifCond .ne 5, 3) := by decide +kernel
theorem dX12_needs_8 : decode cX12_needs 8 = .ok (.iconst (-1), 1) := by decide +kernel
theorem dX12_needs_9 : decode cX12_needs 9 = .ok (.ireturn, 1) := by decide +kernel
theorem dX12_needs_10 : decode cX12_needs 10 = .ok (.iconst 0, 1) := by decide +kernel
theorem dX12_needs_11 : decode cX12_needs 11 = .ok (.istore_n 2, 1) := by decide +kernel
theorem dX12_needs_12 : decode cX12_needs 12 = .ok (.bipush 8, 2) := by decide +kernel
theorem dX12_needs_14 : decode cX12_needs 14 = .ok (.iload_n 1, 1) := by decide +kernel
theorem dX12_needs_15 : decode cX12_needs 15 = .ok (.imul, 1) := by decide +kernel
theorem dX12_needs_16 : decode cX12_needs 16 = .ok (.istore_n 3, 1) := by decide +kernel
theorem dX12_needs_17 : decode cX12_needs 17 = .ok (.iload_n 3, 1) := by decide +kernel
theorem dX12_needs_18 : decode cX12_needs 18 = .ok (.bipush 8, 2) := by decide +kernel
theorem dX12_needs_20 : decode cX12_needs 20 = .ok (.iload_n 1, 1) := by decide +kernel
theorem dX12_needs_21 : decode cX12_needs 21 = .ok (.imul, 1) := by decide +kernel
theorem dX12_needs_22 : decode cX12_needs 22 = .ok (.aload_n 0, 1) := by decide +kernel
theorem dX12_needs_23 : decode cX12_needs 23 = .ok (.getfield 62, 3) := by decide +kernel
theorem dX12_needs_26 : decode cX12_needs 26 = .ok (.iload_n 1, 1) := by decide +kernel
theorem dX12_needs_27 : decode cX12_needs 27 = .ok (.iaload, 1) := by decide +kernel
theorem dX12_needs_28 : decode cX12_needs 28 = .ok (.iadd, 1) := by decide +kernel
theorem dX12_needs_29 : decode cX12_needs 29 = .ok (.if_icmp .ge 36, 3) := by decide +kernel
theorem dX12_needs_32 : decode cX12_needs 32 = .ok (.iload_n 2, 1) := by decide +kernel
theorem dX12_needs_33 : decode cX12_needs 33 = .ok (.aload_n 0, 1) := by decide +kernel
theorem dX12_needs_34 : decode cX12_needs 34 = .ok (.iload_n 3, 1) := by decide +kernel
theorem dX12_needs_35 : decode cX12_needs 35 = .ok (.invokevirtual 459, 3) := by decide +kernel
theorem dX12_needs_38 : decode cX12_needs 38 = .ok (.ifCond .eq 18, 3) := by decide +kernel
theorem dX12_needs_41 : decode cX12_needs 41 = .ok (.iconst 1, 1) := by decide +kernel
theorem dX12_needs_42 : decode cX12_needs 42 = .ok (.aload_n 0, 1) := by decide +kernel
theorem dX12_needs_43 : decode cX12_needs 43 = .ok (.getfield 65, 3) := by decide +kernel
theorem dX12_needs_46 : decode cX12_needs 46 = .ok (.iconst 3, 1) := by decide +kernel
theorem dX12_needs_47 : decode cX12_needs 47 = .ok (.iload_n 3, 1) := by decide +kernel
theorem dX12_needs_48 : decode cX12_needs 48 = .ok (.imul, 1) := by decide +kernel
theorem dX12_needs_49 : decode cX12_needs 49 = .ok (.iconst 2, 1) := by decide +kernel
theorem dX12_needs_50 : decode cX12_needs 50 = .ok (.iadd, 1) := by decide +kernel
theorem dX12_needs_51 : decode cX12_needs 51 = .ok (.iaload, 1) := by decide +kernel
theorem dX12_needs_52 : decode cX12_needs 52 = .ok (.ishl, 1) := by decide +kernel
theorem dX12_needs_53 : decode cX12_needs 53 = .ok (.goto 4, 3) := by decide +kernel
theorem dX12_needs_56 : decode cX12_needs 56 = .ok (.iconst 0, 1) := by decide +kernel
theorem dX12_needs_57 : decode cX12_needs 57 = .ok (.ior, 1) := by decide +kernel
theorem dX12_needs_58 : decode cX12_needs 58 = .ok (.istore_n 2, 1) := by decide +kernel
theorem dX12_needs_59 : decode cX12_needs 59 = .ok (.iinc 3 1, 3) := by decide +kernel
theorem dX12_needs_62 : decode cX12_needs 62 = .ok (.goto (-45), 3) := by decide +kernel
theorem dX12_needs_65 : decode cX12_needs 65 = .ok (.iconst 0, 1) := by decide +kernel
theorem dX12_needs_66 : decode cX12_needs 66 = .ok (.istore_n 3, 1) := by decide +kernel
theorem dX12_needs_67 : decode cX12_needs 67 = .ok (.iconst 0, 1) := by decide +kernel
theorem dX12_needs_68 : decode cX12_needs 68 = .ok (.istore 4, 2) := by decide +kernel
theorem dX12_needs_70 : decode cX12_needs 70 = .ok (.iload 4, 2) := by decide +kernel
theorem dX12_needs_72 : decode cX12_needs 72 = .ok (.aload_n 0, 1) := by decide +kernel
theorem dX12_needs_73 : decode cX12_needs 73 = .ok (.getfield 269, 3) := by decide +kernel
theorem dX12_needs_76 : decode cX12_needs 76 = .ok (.if_icmp .ge 65, 3) := by decide +kernel
theorem dX12_needs_79 : decode cX12_needs 79 = .ok (.iconst 0, 1) := by decide +kernel
theorem dX12_needs_80 : decode cX12_needs 80 = .ok (.istore 5, 2) := by decide +kernel
theorem dX12_needs_82 : decode cX12_needs 82 = .ok (.iload 5, 2) := by decide +kernel
theorem dX12_needs_84 : decode cX12_needs 84 = .ok (.bipush 8, 2) := by decide +kernel
theorem dX12_needs_86 : decode cX12_needs 86 = .ok (.if_icmp .ge 49, 3) := by decide +kernel
theorem dX12_needs_89 : decode cX12_needs 89 = .ok (.iload_n 3, 1) := by decide +kernel
theorem dX12_needs_90 : decode cX12_needs 90 = .ok (.iload_n 2, 1) := by decide +kernel
theorem dX12_needs_91 : decode cX12_needs 91 = .ok (.iload 5, 2) := by decide +kernel
theorem dX12_needs_93 : decode cX12_needs 93 = .ok (.iconst 2, 1) := by decide +kernel
theorem dX12_needs_94 : decode cX12_needs 94 = .ok (.idiv, 1) := by decide +kernel
theorem dX12_needs_95 : decode cX12_needs 95 = .ok (.invokestatic 471, 3) := by decide +kernel
theorem dX12_needs_98 : decode cX12_needs 98 = .ok (.ifCond .eq 28, 3) := by decide +kernel
theorem dX12_needs_101 : decode cX12_needs 101 = .ok (.aload_n 0, 1) := by decide +kernel
theorem dX12_needs_102 : decode cX12_needs 102 = .ok (.getfield 47, 3) := by decide +kernel
theorem dX12_needs_105 : decode cX12_needs 105 = .ok (.bipush 7, 2) := by decide +kernel
theorem dX12_needs_107 : decode cX12_needs 107 = .ok (.bipush 8, 2) := by decide +kernel
theorem dX12_needs_109 : decode cX12_needs 109 = .ok (.iload 4, 2) := by decide +kernel
theorem dX12_needs_111 : decode cX12_needs 111 = .ok (.imul, 1) := by decide +kernel
theorem dX12_needs_112 : decode cX12_needs 112 = .ok (.iadd, 1) := by decide +kernel
theorem dX12_needs_113 : decode cX12_needs 113 = .ok (.iload 5, 2) := by decide +kernel
theorem dX12_needs_115 : decode cX12_needs 115 = .ok (.iadd, 1) := by decide +kernel
theorem dX12_needs_116 : decode cX12_needs 116 = .ok (.laload, 1) := by decide +kernel
theorem dX12_needs_117 : decode cX12_needs 117 = .ok (.lconst 0, 1) := by decide +kernel
theorem dX12_needs_118 : decode cX12_needs 118 = .ok (.lcmp, 1) := by decide +kernel
theorem dX12_needs_119 : decode cX12_needs 119 = .ok (.ifCond .ne 7, 3) := by decide +kernel
theorem dX12_needs_122 : decode cX12_needs 122 = .ok (.iconst 1, 1) := by decide +kernel
theorem dX12_needs_123 : decode cX12_needs 123 = .ok (.goto 4, 3) := by decide +kernel
theorem dX12_needs_126 : decode cX12_needs 126 = .ok (.iconst 0, 1) := by decide +kernel
theorem dX12_needs_127 : decode cX12_needs 127 = .ok (.iadd, 1) := by decide +kernel
theorem dX12_needs_128 : decode cX12_needs 128 = .ok (.istore_n 3, 1) := by decide +kernel
theorem dX12_needs_129 : decode cX12_needs 129 = .ok (.iinc 5 1, 3) := by decide +kernel
theorem dX12_needs_132 : decode cX12_needs 132 = .ok (.goto (-50), 3) := by decide +kernel
theorem dX12_needs_135 : decode cX12_needs 135 = .ok (.iinc 4 1, 3) := by decide +kernel
theorem dX12_needs_138 : decode cX12_needs 138 = .ok (.goto (-68), 3) := by decide +kernel
theorem dX12_needs_141 : decode cX12_needs 141 = .ok (.iload_n 3, 1) := by decide +kernel
theorem dX12_needs_142 : decode cX12_needs 142 = .ok (.ireturn, 1) := by decide +kernel
theorem dX12_formBy_0 : decode cX12_formBy 0 = .ok (.aload_n 0, 1) := by decide +kernel
theorem dX12_formBy_1 : decode cX12_formBy 1 = .ok (.iload_n 1, 1) := by decide +kernel
theorem dX12_formBy_2 : decode cX12_formBy 2 = .ok (.iload_n 2, 1) := by decide +kernel
theorem dX12_formBy_3 : decode cX12_formBy 3 = .ok (.iconst 2, 1) := by decide +kernel
theorem dX12_formBy_4 : decode cX12_formBy 4 = .ok (.idiv, 1) := by decide +kernel
theorem dX12_formBy_5 : decode cX12_formBy 5 = .ok (.iload_n 2, 1) := by decide +kernel
theorem dX12_formBy_6 : decode cX12_formBy 6 = .ok (.iconst 2, 1) := by decide +kernel
theorem dX12_formBy_7 : decode cX12_formBy 7 = .ok (.irem, 1) := by decide +kernel
theorem dX12_formBy_8 : decode cX12_formBy 8 = .ok (.invokevirtual 351, 3) := by decide +kernel
theorem dX12_formBy_11 : decode cX12_formBy 11 = .ok (.lreturn, 1) := by decide +kernel
theorem dX12_alike_0 : decode cX12_alike 0 = .ok (.aload_n 0, 1) := by decide +kernel
theorem dX12_alike_1 : decode cX12_alike 1 = .ok (.iload_n 1, 1) := by decide +kernel
theorem dX12_alike_2 : decode cX12_alike 2 = .ok (.invokevirtual 376, 3) := by decide +kernel
theorem dX12_alike_5 : decode cX12_alike 5 = .ok (.ifCond .ne 5, 3) := by decide +kernel
theorem dX12_alike_8 : decode cX12_alike 8 = .ok (.iconst (-1), 1) := by decide +kernel
theorem dX12_alike_9 : decode cX12_alike 9 = .ok (.ireturn, 1) := by decide +kernel
theorem dX12_alike_10 : decode cX12_alike 10 = .ok (.iconst 0, 1) := by decide +kernel
theorem dX12_alike_11 : decode cX12_alike 11 = .ok (.istore_n 2, 1) := by decide +kernel
theorem dX12_alike_12 : decode cX12_alike 12 = .ok (.iconst 0, 1) := by decide +kernel
theorem dX12_alike_13 : decode cX12_alike 13 = .ok (.istore_n 3, 1) := by decide +kernel
theorem dX12_alike_14 : decode cX12_alike 14 = .ok (.iload_n 3, 1) := by decide +kernel
theorem dX12_alike_15 : decode cX12_alike 15 = .ok (.bipush 8, 2) := by decide +kernel
theorem dX12_alike_17 : decode cX12_alike 17 = .ok (.if_icmp .ge 69, 3) := by decide +kernel
theorem dX12_alike_20 : decode cX12_alike 20 = .ok (.iconst 1, 1) := by decide +kernel
theorem dX12_alike_21 : decode cX12_alike 21 = .ok (.istore 4, 2) := by decide +kernel
theorem dX12_alike_23 : decode cX12_alike 23 = .ok (.iconst 0, 1) := by decide +kernel
theorem dX12_alike_24 : decode cX12_alike 24 = .ok (.istore 5, 2) := by decide +kernel
theorem dX12_alike_26 : decode cX12_alike 26 = .ok (.iload 5, 2) := by decide +kernel
theorem dX12_alike_28 : decode cX12_alike 28 = .ok (.iload_n 3, 1) := by decide +kernel
theorem dX12_alike_29 : decode cX12_alike 29 = .ok (.if_icmp .ge 38, 3) := by decide +kernel
theorem dX12_alike_32 : decode cX12_alike 32 = .ok (.iload 4, 2) := by decide +kernel
theorem dX12_alike_34 : decode cX12_alike 34 = .ok (.ifCond .eq 24, 3) := by decide +kernel
theorem dX12_alike_37 : decode cX12_alike 37 = .ok (.aload_n 0, 1) := by decide +kernel
theorem dX12_alike_38 : decode cX12_alike 38 = .ok (.iload_n 1, 1) := by decide +kernel
theorem dX12_alike_39 : decode cX12_alike 39 = .ok (.iload_n 3, 1) := by decide +kernel
theorem dX12_alike_40 : decode cX12_alike 40 = .ok (.invokevirtual 474, 3) := by decide +kernel
theorem dX12_alike_43 : decode cX12_alike 43 = .ok (.aload_n 0, 1) := by decide +kernel
theorem dX12_alike_44 : decode cX12_alike 44 = .ok (.iload_n 1, 1) := by decide +kernel
theorem dX12_alike_45 : decode cX12_alike 45 = .ok (.iload 5, 2) := by decide +kernel
theorem dX12_alike_47 : decode cX12_alike 47 = .ok (.invokevirtual 474, 3) := by decide +kernel
theorem dX12_alike_50 : decode cX12_alike 50 = .ok (.lcmp, 1) := by decide +kernel
theorem dX12_alike_51 : decode cX12_alike 51 = .ok (.ifCond .eq 7, 3) := by decide +kernel
theorem dX12_alike_54 : decode cX12_alike 54 = .ok (.iconst 1, 1) := by decide +kernel
theorem dX12_alike_55 : decode cX12_alike 55 = .ok (.goto 4, 3) := by decide +kernel
theorem dX12_alike_58 : decode cX12_alike 58 = .ok (.iconst 0, 1) := by decide +kernel
theorem dX12_alike_59 : decode cX12_alike 59 = .ok (.istore 4, 2) := by decide +kernel
theorem dX12_alike_61 : decode cX12_alike 61 = .ok (.iinc 5 1, 3) := by decide +kernel
theorem dX12_alike_64 : decode cX12_alike 64 = .ok (.goto (-38), 3) := by decide +kernel
theorem dX12_alike_67 : decode cX12_alike 67 = .ok (.iload_n 2, 1) := by decide +kernel
theorem dX12_alike_68 : decode cX12_alike 68 = .ok (.iload 4, 2) := by decide +kernel
theorem dX12_alike_70 : decode cX12_alike 70 = .ok (.ifCond .eq 7, 3) := by decide +kernel
theorem dX12_alike_73 : decode cX12_alike 73 = .ok (.iconst 1, 1) := by decide +kernel
theorem dX12_alike_74 : decode cX12_alike 74 = .ok (.goto 4, 3) := by decide +kernel
theorem dX12_alike_77 : decode cX12_alike 77 = .ok (.iconst 0, 1) := by decide +kernel
theorem dX12_alike_78 : decode cX12_alike 78 = .ok (.iadd, 1) := by decide +kernel
theorem dX12_alike_79 : decode cX12_alike 79 = .ok (.istore_n 2, 1) := by decide +kernel
theorem dX12_alike_80 : decode cX12_alike 80 = .ok (.iinc 3 1, 3) := by decide +kernel
theorem dX12_alike_83 : decode cX12_alike 83 = .ok (.goto (-69), 3) := by decide +kernel
theorem dX12_alike_86 : decode cX12_alike 86 = .ok (.iload_n 2, 1) := by decide +kernel
theorem dX12_alike_87 : decode cX12_alike 87 = .ok (.ireturn, 1) := by decide +kernel
theorem dX12_canBe_0 : decode cX12_canBe 0 = .ok (.aload_n 0, 1) := by decide +kernel
theorem dX12_canBe_1 : decode cX12_canBe 1 = .ok (.iload_n 1, 1) := by decide +kernel
theorem dX12_canBe_2 : decode cX12_canBe 2 = .ok (.invokevirtual 376, 3) := by decide +kernel
theorem dX12_canBe_5 : decode cX12_canBe 5 = .ok (.ifCond .ne 5, 3) := by decide +kernel
theorem dX12_canBe_8 : decode cX12_canBe 8 = .ok (.iconst (-1), 1) := by decide +kernel
theorem dX12_canBe_9 : decode cX12_canBe 9 = .ok (.ireturn, 1) := by decide +kernel
theorem dX12_canBe_10 : decode cX12_canBe 10 = .ok (.aload_n 0, 1) := by decide +kernel
theorem dX12_canBe_11 : decode cX12_canBe 11 = .ok (.invokevirtual 420, 3) := by decide +kernel
theorem dX12_canBe_14 : decode cX12_canBe 14 = .ok (.lstore_n 2, 1) := by decide +kernel
theorem dX12_canBe_15 : decode cX12_canBe 15 = .ok (.iconst 0, 1) := by decide +kernel
theorem dX12_canBe_16 : decode cX12_canBe 16 = .ok (.istore 4, 2) := by decide +kernel
theorem dX12_canBe_18 : decode cX12_canBe 18 = .ok (.iconst 0, 1) := by decide +kernel
theorem dX12_canBe_19 : decode cX12_canBe 19 = .ok (.istore 5, 2) := by decide +kernel
theorem dX12_canBe_21 : decode cX12_canBe 21 = .ok (.iload 5, 2) := by decide +kernel
theorem dX12_canBe_23 : decode cX12_canBe 23 = .ok (.bipush 8, 2) := by decide +kernel
theorem dX12_canBe_25 : decode cX12_canBe 25 = .ok (.if_icmp .ge 34, 3) := by decide +kernel
theorem dX12_canBe_28 : decode cX12_canBe 28 = .ok (.iload 4, 2) := by decide +kernel
theorem dX12_canBe_30 : decode cX12_canBe 30 = .ok (.aload_n 0, 1) := by decide +kernel
theorem dX12_canBe_31 : decode cX12_canBe 31 = .ok (.iload_n 1, 1) := by decide +kernel
theorem dX12_canBe_32 : decode cX12_canBe 32 = .ok (.iload 5, 2) := by decide +kernel
theorem dX12_canBe_34 : decode cX12_canBe 34 = .ok (.invokevirtual 474, 3) := by decide +kernel
theorem dX12_canBe_37 : decode cX12_canBe 37 = .ok (.lload_n 2, 1) := by decide +kernel
theorem dX12_canBe_38 : decode cX12_canBe 38 = .ok (.lcmp, 1) := by decide +kernel
theorem dX12_canBe_39 : decode cX12_canBe 39 = .ok (.ifCond .ne 10, 3) := by decide +kernel
theorem dX12_canBe_42 : decode cX12_canBe 42 = .ok (.iconst 1, 1) := by decide +kernel
theorem dX12_canBe_43 : decode cX12_canBe 43 = .ok (.iload 5, 2) := by decide +kernel
theorem dX12_canBe_45 : decode cX12_canBe 45 = .ok (.ishl, 1) := by decide +kernel
theorem dX12_canBe_46 : decode cX12_canBe 46 = .ok (.goto 4, 3) := by decide +kernel
theorem dX12_canBe_49 : decode cX12_canBe 49 = .ok (.iconst 0, 1) := by decide +kernel
theorem dX12_canBe_50 : decode cX12_canBe 50 = .ok (.ior, 1) := by decide +kernel
theorem dX12_canBe_51 : decode cX12_canBe 51 = .ok (.istore 4, 2) := by decide +kernel
theorem dX12_canBe_53 : decode cX12_canBe 53 = .ok (.iinc 5 1, 3) := by decide +kernel
theorem dX12_canBe_56 : decode cX12_canBe 56 = .ok (.goto (-35), 3) := by decide +kernel
theorem dX12_canBe_59 : decode cX12_canBe 59 = .ok (.iload 4, 2) := by decide +kernel
theorem dX12_canBe_61 : decode cX12_canBe 61 = .ok (.ireturn, 1) := by decide +kernel
theorem dX12_putAside_0 : decode cX12_putAside 0 = .ok (.iconst 0, 1) := by decide +kernel
theorem dX12_putAside_1 : decode cX12_putAside 1 = .ok (.istore_n 1, 1) := by decide +kernel
theorem dX12_putAside_2 : decode cX12_putAside 2 = .ok (.iload_n 1, 1) := by decide +kernel
theorem dX12_putAside_3 : decode cX12_putAside 3 = .ok (.bipush 55, 2) := by decide +kernel
theorem dX12_putAside_5 : decode cX12_putAside 5 = .ok (.if_icmp .ge 21, 3) := by decide +kernel
theorem dX12_putAside_8 : decode cX12_putAside 8 = .ok (.aload_n 0, 1) := by decide +kernel
theorem dX12_putAside_9 : decode cX12_putAside 9 = .ok (.getfield 77, 3) := by decide +kernel
theorem dX12_putAside_12 : decode cX12_putAside 12 = .ok (.iload_n 1, 1) := by decide +kernel
theorem dX12_putAside_13 : decode cX12_putAside 13 = .ok (.aload_n 0, 1) := by decide +kernel
theorem dX12_putAside_14 : decode cX12_putAside 14 = .ok (.getfield 47, 3) := by decide +kernel
theorem dX12_putAside_17 : decode cX12_putAside 17 = .ok (.iload_n 1, 1) := by decide +kernel
theorem dX12_putAside_18 : decode cX12_putAside 18 = .ok (.laload, 1) := by decide +kernel
theorem dX12_putAside_19 : decode cX12_putAside 19 = .ok (.lastore, 1) := by decide +kernel
theorem dX12_putAside_20 : decode cX12_putAside 20 = .ok (.iinc 1 1, 3) := by decide +kernel
theorem dX12_putAside_23 : decode cX12_putAside 23 = .ok (.goto (-21), 3) := by decide +kernel
theorem dX12_putAside_26 : decode cX12_putAside 26 = .ok (.return_, 1) := by decide +kernel
theorem dX12_bringBack_0 : decode cX12_bringBack 0 = .ok (.iconst 0, 1) := by decide +kernel
theorem dX12_bringBack_1 : decode cX12_bringBack 1 = .ok (.istore_n 1, 1) := by decide +kernel
theorem dX12_bringBack_2 : decode cX12_bringBack 2 = .ok (.iload_n 1, 1) := by decide +kernel
theorem dX12_bringBack_3 : decode cX12_bringBack 3 = .ok (.bipush 55, 2) := by decide +kernel
theorem dX12_bringBack_5 : decode cX12_bringBack 5 = .ok (.if_icmp .ge 21, 3) := by decide +kernel
theorem dX12_bringBack_8 : decode cX12_bringBack 8 = .ok (.aload_n 0, 1) := by decide +kernel
theorem dX12_bringBack_9 : decode cX12_bringBack 9 = .ok (.getfield 47, 3) := by decide +kernel
theorem dX12_bringBack_12 : decode cX12_bringBack 12 = .ok (.iload_n 1, 1) := by decide +kernel
theorem dX12_bringBack_13 : decode cX12_bringBack 13 = .ok (.aload_n 0, 1) := by decide +kernel
theorem dX12_bringBack_14 : decode cX12_bringBack 14 = .ok (.getfield 77, 3) := by decide +kernel
theorem dX12_bringBack_17 : decode cX12_bringBack 17 = .ok (.iload_n 1, 1) := by decide +kernel
theorem dX12_bringBack_18 : decode cX12_bringBack 18 = .ok (.laload, 1) := by decide +kernel
theorem dX12_bringBack_19 : decode cX12_bringBack 19 = .ok (.lastore, 1) := by decide +kernel
theorem dX12_bringBack_20 : decode cX12_bringBack 20 = .ok (.iinc 1 1, 3) := by decide +kernel
theorem dX12_bringBack_23 : decode cX12_bringBack 23 = .ok (.goto (-21), 3) := by decide +kernel
theorem dX12_bringBack_26 : decode cX12_bringBack 26 = .ok (.return_, 1) := by decide +kernel
theorem dX12_would_0 : decode cX12_would 0 = .ok (.aload_n 0, 1) := by decide +kernel
theorem dX12_would_1 : decode cX12_would 1 = .ok (.iload_n 1, 1) := by decide +kernel
theorem dX12_would_2 : decode cX12_would 2 = .ok (.iload_n 2, 1) := by decide +kernel
theorem dX12_would_3 : decode cX12_would 3 = .ok (.iload_n 3, 1) := by decide +kernel
theorem dX12_would_4 : decode cX12_would 4 = .ok (.invokevirtual 379, 3) := by decide +kernel
theorem dX12_would_7 : decode cX12_would 7 = .ok (.iconst (-1), 1) := by decide +kernel
theorem dX12_would_8 : decode cX12_would 8 = .ok (.if_icmp .eq 5, 3) := by decide +kernel
theorem dX12_would_11 : decode cX12_would 11 = .ok (.iconst (-1), 1) := by decide +kernel
theorem dX12_would_12 : decode cX12_would 12 = .ok (.ireturn, 1) := by decide +kernel
theorem dX12_would_13 : decode cX12_would 13 = .ok (.aload_n 0, 1) := by decide +kernel
theorem dX12_would_14 : decode cX12_would 14 = .ok (.invokevirtual 478, 3) := by decide +kernel
theorem dX12_would_17 : decode cX12_would 17 = .ok (.aload_n 0, 1) := by decide +kernel
theorem dX12_would_18 : decode cX12_would 18 = .ok (.iload_n 1, 1) := by decide +kernel
theorem dX12_would_19 : decode cX12_would 19 = .ok (.iload_n 2, 1) := by decide +kernel
theorem dX12_would_20 : decode cX12_would 20 = .ok (.iload_n 3, 1) := by decide +kernel
theorem dX12_would_21 : decode cX12_would 21 = .ok (.invokevirtual 386, 3) := by decide +kernel
theorem dX12_would_24 : decode cX12_would 24 = .ok (.pop, 1) := by decide +kernel
theorem dX12_would_25 : decode cX12_would 25 = .ok (.aload_n 0, 1) := by decide +kernel
theorem dX12_would_26 : decode cX12_would 26 = .ok (.invokevirtual 367, 3) := by decide +kernel
theorem dX12_would_29 : decode cX12_would 29 = .ok (.istore 4, 2) := by decide +kernel
theorem dX12_would_31 : decode cX12_would 31 = .ok (.aload_n 0, 1) := by decide +kernel
theorem dX12_would_32 : decode cX12_would 32 = .ok (.invokevirtual 481, 3) := by decide +kernel
theorem dX12_would_35 : decode cX12_would 35 = .ok (.iload 4, 2) := by decide +kernel
theorem dX12_would_37 : decode cX12_would 37 = .ok (.ireturn, 1) := by decide +kernel
theorem dX12_isTape_0 : decode cX12_isTape 0 = .ok (.aload_n 0, 1) := by decide +kernel
theorem dX12_isTape_1 : decode cX12_isTape 1 = .ok (.getfield 308, 3) := by decide +kernel
theorem dX12_isTape_4 : decode cX12_isTape 4 = .ok (.aload_n 0, 1) := by decide +kernel
theorem dX12_isTape_5 : decode cX12_isTape 5 = .ok (.getfield 97, 3) := by decide +kernel
theorem dX12_isTape_8 : decode cX12_isTape 8 = .ok (.if_icmp .ne 7, 3) := by decide +kernel
theorem dX12_isTape_11 : decode cX12_isTape 11 = .ok (.iconst 1, 1) := by decide +kernel
theorem dX12_isTape_12 : decode cX12_isTape 12 = .ok (.goto 4, 3) := by decide +kernel
theorem dX12_isTape_15 : decode cX12_isTape 15 = .ok (.iconst 0, 1) := by decide +kernel
theorem dX12_isTape_16 : decode cX12_isTape 16 = .ok (.istore_n 1, 1) := by decide +kernel
theorem dX12_isTape_17 : decode cX12_isTape 17 = .ok (.iconst 0, 1) := by decide +kernel
theorem dX12_isTape_18 : decode cX12_isTape 18 = .ok (.istore_n 2, 1) := by decide +kernel
theorem dX12_isTape_19 : decode cX12_isTape 19 = .ok (.iload_n 2, 1) := by decide +kernel
theorem dX12_isTape_20 : decode cX12_isTape 20 = .ok (.aload_n 0, 1) := by decide +kernel
theorem dX12_isTape_21 : decode cX12_isTape 21 = .ok (.getfield 97, 3) := by decide +kernel
theorem dX12_isTape_24 : decode cX12_isTape 24 = .ok (.if_icmp .ge 34, 3) := by decide +kernel
theorem dX12_isTape_27 : decode cX12_isTape 27 = .ok (.iload_n 1, 1) := by decide +kernel
theorem dX12_isTape_28 : decode cX12_isTape 28 = .ok (.ifCond .eq 30, 3) := by decide +kernel
theorem dX12_isTape_31 : decode cX12_isTape 31 = .ok (.aload_n 0, 1) := by decide +kernel
theorem dX12_isTape_32 : decode cX12_isTape 32 = .ok (.getfield 71, 3) := by decide +kernel
theorem dX12_isTape_35 : decode cX12_isTape 35 = .ok (.iload_n 2, 1) := by decide +kernel
theorem dX12_isTape_36 : decode cX12_isTape 36 = .ok (.iaload, 1) := by decide +kernel
theorem dX12_isTape_37 : decode cX12_isTape 37 = .ok (.aload_n 0, 1) := by decide +kernel
theorem dX12_isTape_38 : decode cX12_isTape 38 = .ok (.getfield 9, 3) := by decide +kernel
theorem dX12_isTape_41 : decode cX12_isTape 41 = .ok (.iload_n 2, 1) := by decide +kernel
theorem dX12_isTape_42 : decode cX12_isTape 42 = .ok (.iaload, 1) := by decide +kernel
theorem dX12_isTape_43 : decode cX12_isTape 43 = .ok (.if_icmp .ne 7, 3) := by decide +kernel
theorem dX12_isTape_46 : decode cX12_isTape 46 = .ok (.iconst 1, 1) := by decide +kernel
theorem dX12_isTape_47 : decode cX12_isTape 47 = .ok (.goto 4, 3) := by decide +kernel
theorem dX12_isTape_50 : decode cX12_isTape 50 = .ok (.iconst 0, 1) := by decide +kernel
theorem dX12_isTape_51 : decode cX12_isTape 51 = .ok (.istore_n 1, 1) := by decide +kernel
theorem dX12_isTape_52 : decode cX12_isTape 52 = .ok (.iinc 2 1, 3) := by decide +kernel
theorem dX12_isTape_55 : decode cX12_isTape 55 = .ok (.goto (-36), 3) := by decide +kernel
theorem dX12_isTape_58 : decode cX12_isTape 58 = .ok (.iload_n 1, 1) := by decide +kernel
theorem dX12_isTape_59 : decode cX12_isTape 59 = .ok (.ireturn, 1) := by decide +kernel
theorem dX12_guesses_0 : decode cX12_guesses 0 = .ok (.iload_n 3, 1) := by decide +kernel
theorem dX12_guesses_1 : decode cX12_guesses 1 = .ok (.iconst 3, 1) := by decide +kernel
theorem dX12_guesses_2 : decode cX12_guesses 2 = .ok (.if_icmp .ne 77, 3) := by decide +kernel
theorem dX12_guesses_5 : decode cX12_guesses 5 = .ok (.aload_n 0, 1) := by decide +kernel
theorem dX12_guesses_6 : decode cX12_guesses 6 = .ok (.iload_n 1, 1) := by decide +kernel
theorem dX12_guesses_7 : decode cX12_guesses 7 = .ok (.invokevirtual 364, 3) := by decide +kernel
theorem dX12_guesses_10 : decode cX12_guesses 10 = .ok (.ifCond .eq 68, 3) := by decide +kernel
theorem dX12_guesses_13 : decode cX12_guesses 13 = .ok (.aload_n 0, 1) := by decide +kernel
theorem dX12_guesses_14 : decode cX12_guesses 14 = .ok (.invokevirtual 484, 3) := by decide +kernel
theorem dX12_guesses_17 : decode cX12_guesses 17 = .ok (.ifCond .eq 61, 3) := by decide +kernel
theorem dX12_guesses_20 : decode cX12_guesses 20 = .ok (.iconst 0, 1) := by decide +kernel
theorem dX12_guesses_21 : decode cX12_guesses 21 = .ok (.istore 4, 2) := by decide +kernel
theorem dX12_guesses_23 : decode cX12_guesses 23 = .ok (.iload 4, 2) := by decide +kernel
theorem dX12_guesses_25 : decode cX12_guesses 25 = .ok (.iconst 3, 1) := by decide +kernel
theorem dX12_guesses_26 : decode cX12_guesses 26 = .ok (.if_icmp .ge 42, 3) := by decide +kernel
theorem dX12_guesses_29 : decode cX12_guesses 29 = .ok (.aload_n 0, 1) := by decide +kernel
theorem dX12_guesses_30 : decode cX12_guesses 30 = .ok (.getfield 487, 3) := by decide +kernel
theorem dX12_guesses_33 : decode cX12_guesses 33 = .ok (.ifCond .ne 35, 3) := by decide +kernel
theorem dX12_guesses_36 : decode cX12_guesses 36 = .ok (.aload_n 0, 1) := by decide +kernel
theorem dX12_guesses_37 : decode cX12_guesses 37 = .ok (.getfield 80, 3) := by decide +kernel
theorem dX12_guesses_40 : decode cX12_guesses 40 = .ok (.iload 4, 2) := by decide +kernel
theorem dX12_guesses_42 : decode cX12_guesses 42 = .ok (.aload_n 0, 1) := by decide +kernel
theorem dX12_guesses_43 : decode cX12_guesses 43 = .ok (.iload 4, 2) := by decide +kernel
theorem dX12_guesses_45 : decode cX12_guesses 45 = .ok (.invokevirtual 330, 3) := by decide +kernel
theorem dX12_guesses_48 : decode cX12_guesses 48 = .ok (.iastore, 1) := by decide +kernel
theorem dX12_guesses_49 : decode cX12_guesses 49 = .ok (.aload_n 0, 1) := by decide +kernel
theorem dX12_guesses_50 : decode cX12_guesses 50 = .ok (.getfield 83, 3) := by decide +kernel
theorem dX12_guesses_53 : decode cX12_guesses 53 = .ok (.iload 4, 2) := by decide +kernel
theorem dX12_guesses_55 : decode cX12_guesses 55 = .ok (.aload_n 0, 1) := by decide +kernel
theorem dX12_guesses_56 : decode cX12_guesses 56 = .ok (.iload 4, 2) := by decide +kernel
theorem dX12_guesses_58 : decode cX12_guesses 58 = .ok (.invokevirtual 278, 3) := by decide +kernel
theorem dX12_guesses_61 : decode cX12_guesses 61 = .ok (.iastore, 1) := by decide +kernel
theorem dX12_guesses_62 : decode cX12_guesses 62 = .ok (.iinc 4 1, 3) := by decide +kernel
theorem dX12_guesses_65 : decode cX12_guesses 65 = .ok (.goto (-42), 3) := by decide +kernel
theorem dX12_guesses_68 : decode cX12_guesses 68 = .ok (.aload_n 0, 1) := by decide +kernel
theorem dX12_guesses_69 : decode cX12_guesses 69 = .ok (.dup, 1) := by decide +kernel
theorem dX12_guesses_70 : decode cX12_guesses 70 = .ok (.getfield 487, 3) := by decide +kernel
theorem dX12_guesses_73 : decode cX12_guesses 73 = .ok (.iconst 1, 1) := by decide +kernel
theorem dX12_guesses_74 : decode cX12_guesses 74 = .ok (.iadd, 1) := by decide +kernel
theorem dX12_guesses_75 : decode cX12_guesses 75 = .ok (.putfield 487, 3) := by decide +kernel
theorem dX12_guesses_78 : decode cX12_guesses 78 = .ok (.return_, 1) := by decide +kernel
theorem dX12_guesses_79 : decode cX12_guesses 79 = .ok (.iload_n 2, 1) := by decide +kernel
theorem dX12_guesses_80 : decode cX12_guesses 80 = .ok (.iload_n 3, 1) := by decide +kernel
theorem dX12_guesses_81 : decode cX12_guesses 81 = .ok (.invokestatic 471, 3) := by decide +kernel
theorem dX12_guesses_84 : decode cX12_guesses 84 = .ok (.ifCond .ne 13, 3) := by decide +kernel
theorem dX12_guesses_87 : decode cX12_guesses 87 = .ok (.aload_n 0, 1) := by decide +kernel
theorem dX12_guesses_88 : decode cX12_guesses 88 = .ok (.iload_n 1, 1) := by decide +kernel
theorem dX12_guesses_89 : decode cX12_guesses 89 = .ok (.iload_n 2, 1) := by decide +kernel
theorem dX12_guesses_90 : decode cX12_guesses 90 = .ok (.iload_n 3, 1) := by decide +kernel
theorem dX12_guesses_91 : decode cX12_guesses 91 = .ok (.iconst 1, 1) := by decide +kernel
theorem dX12_guesses_92 : decode cX12_guesses 92 = .ok (.iadd, 1) := by decide +kernel
theorem dX12_guesses_93 : decode cX12_guesses 93 = .ok (.invokevirtual 490, 3) := by decide +kernel
theorem dX12_guesses_96 : decode cX12_guesses 96 = .ok (.return_, 1) := by decide +kernel
theorem dX12_guesses_97 : decode cX12_guesses 97 = .ok (.iconst 0, 1) := by decide +kernel
theorem dX12_guesses_98 : decode cX12_guesses 98 = .ok (.istore 4, 2) := by decide +kernel
theorem dX12_guesses_100 : decode cX12_guesses 100 = .ok (.iload 4, 2) := by decide +kernel
theorem dX12_guesses_102 : decode cX12_guesses 102 = .ok (.aload_n 0, 1) := by decide +kernel
theorem dX12_guesses_103 : decode cX12_guesses 103 = .ok (.getfield 269, 3) := by decide +kernel
theorem dX12_guesses_106 : decode cX12_guesses 106 = .ok (.if_icmp .ge 43, 3) := by decide +kernel
theorem dX12_guesses_109 : decode cX12_guesses 109 = .ok (.iconst 1, 1) := by decide +kernel
theorem dX12_guesses_110 : decode cX12_guesses 110 = .ok (.istore 5, 2) := by decide +kernel
theorem dX12_guesses_112 : decode cX12_guesses 112 = .ok (.iload 5, 2) := by decide +kernel
theorem dX12_guesses_114 : decode cX12_guesses 114 = .ok (.iconst 3, 1) := by decide +kernel
theorem dX12_guesses_115 : decode cX12_guesses 115 = .ok (.if_icmp .ge 28, 3) := by decide +kernel
theorem dX12_guesses_118 : decode cX12_guesses 118 = .ok (.aload_n 0, 1) := by decide +kernel
theorem dX12_guesses_119 : decode cX12_guesses 119 = .ok (.iload_n 3, 1) := by decide +kernel
theorem dX12_guesses_120 : decode cX12_guesses 120 = .ok (.iload 4, 2) := by decide +kernel
theorem dX12_guesses_122 : decode cX12_guesses 122 = .ok (.iload 5, 2) := by decide +kernel
theorem dX12_guesses_124 : decode cX12_guesses 124 = .ok (.invokevirtual 386, 3) := by decide +kernel
theorem dX12_guesses_127 : decode cX12_guesses 127 = .ok (.pop, 1) := by decide +kernel
theorem dX12_guesses_128 : decode cX12_guesses 128 = .ok (.aload_n 0, 1) := by decide +kernel
theorem dX12_guesses_129 : decode cX12_guesses 129 = .ok (.iload_n 1, 1) := by decide +kernel
theorem dX12_guesses_130 : decode cX12_guesses 130 = .ok (.iload_n 2, 1) := by decide +kernel
theorem dX12_guesses_131 : decode cX12_guesses 131 = .ok (.iload_n 3, 1) := by decide +kernel
theorem dX12_guesses_132 : decode cX12_guesses 132 = .ok (.iconst 1, 1) := by decide +kernel
theorem dX12_guesses_133 : decode cX12_guesses 133 = .ok (.iadd, 1) := by decide +kernel
theorem dX12_guesses_134 : decode cX12_guesses 134 = .ok (.invokevirtual 490, 3) := by decide +kernel
theorem dX12_guesses_137 : decode cX12_guesses 137 = .ok (.iinc 5 1, 3) := by decide +kernel
theorem dX12_guesses_140 : decode cX12_guesses 140 = .ok (.goto (-28), 3) := by decide +kernel
theorem dX12_guesses_143 : decode cX12_guesses 143 = .ok (.iinc 4 1, 3) := by decide +kernel
theorem dX12_guesses_146 : decode cX12_guesses 146 = .ok (.goto (-46), 3) := by decide +kernel
theorem dX12_guesses_149 : decode cX12_guesses 149 = .ok (.return_, 1) := by decide +kernel
theorem dX12_guess_0 : decode cX12_guess 0 = .ok (.aload_n 0, 1) := by decide +kernel
theorem dX12_guess_1 : decode cX12_guess 1 = .ok (.iload_n 1, 1) := by decide +kernel
theorem dX12_guess_2 : decode cX12_guess 2 = .ok (.invokevirtual 453, 3) := by decide +kernel
theorem dX12_guess_5 : decode cX12_guess 5 = .ok (.ifCond .eq 12, 3) := by decide +kernel
theorem dX12_guess_8 : decode cX12_guess 8 = .ok (.iload_n 2, 1) := by decide +kernel
theorem dX12_guess_9 : decode cX12_guess 9 = .ok (.iconst (-1), 1) := by decide +kernel
theorem dX12_guess_10 : decode cX12_guess 10 = .ok (.iconst 5, 1) := by decide +kernel
theorem dX12_guess_11 : decode cX12_guess 11 = .ok (.invokestatic 100, 3) := by decide +kernel
theorem dX12_guess_14 : decode cX12_guess 14 = .ok (.ifCond .ne 5, 3) := by decide +kernel
theorem dX12_guess_17 : decode cX12_guess 17 = .ok (.iconst (-1), 1) := by decide +kernel
theorem dX12_guess_18 : decode cX12_guess 18 = .ok (.ireturn, 1) := by decide +kernel
theorem dX12_guess_19 : decode cX12_guess 19 = .ok (.aload_n 0, 1) := by decide +kernel
theorem dX12_guess_20 : decode cX12_guess 20 = .ok (.iload_n 1, 1) := by decide +kernel
theorem dX12_guess_21 : decode cX12_guess 21 = .ok (.invokevirtual 456, 3) := by decide +kernel
theorem dX12_guess_24 : decode cX12_guess 24 = .ok (.istore_n 3, 1) := by decide +kernel
theorem dX12_guess_25 : decode cX12_guess 25 = .ok (.aload_n 0, 1) := by decide +kernel
theorem dX12_guess_26 : decode cX12_guess 26 = .ok (.iconst 0, 1) := by decide +kernel
theorem dX12_guess_27 : decode cX12_guess 27 = .ok (.putfield 487, 3) := by decide +kernel
theorem dX12_guess_30 : decode cX12_guess 30 = .ok (.aload_n 0, 1) := by decide +kernel
theorem dX12_guess_31 : decode cX12_guess 31 = .ok (.invokevirtual 478, 3) := by decide +kernel
theorem dX12_guess_34 : decode cX12_guess 34 = .ok (.aload_n 0, 1) := by decide +kernel
theorem dX12_guess_35 : decode cX12_guess 35 = .ok (.iload_n 1, 1) := by decide +kernel
theorem dX12_guess_36 : decode cX12_guess 36 = .ok (.iload_n 3, 1) := by decide +kernel
theorem dX12_guess_37 : decode cX12_guess 37 = .ok (.iconst 0, 1) := by decide +kernel
theorem dX12_guess_38 : decode cX12_guess 38 = .ok (.invokevirtual 490, 3) := by decide +kernel
theorem dX12_guess_41 : decode cX12_guess 41 = .ok (.aload_n 0, 1) := by decide +kernel
theorem dX12_guess_42 : decode cX12_guess 42 = .ok (.invokevirtual 481, 3) := by decide +kernel
theorem dX12_guess_45 : decode cX12_guess 45 = .ok (.iload_n 2, 1) := by decide +kernel
theorem dX12_guess_46 : decode cX12_guess 46 = .ok (.iconst (-1), 1) := by decide +kernel
theorem dX12_guess_47 : decode cX12_guess 47 = .ok (.if_icmp .ne 19, 3) := by decide +kernel
theorem dX12_guess_50 : decode cX12_guess 50 = .ok (.aload_n 0, 1) := by decide +kernel
theorem dX12_guess_51 : decode cX12_guess 51 = .ok (.getfield 487, 3) := by decide +kernel
theorem dX12_guess_54 : decode cX12_guess 54 = .ok (.ifCond .ne 7, 3) := by decide +kernel
theorem dX12_guess_57 : decode cX12_guess 57 = .ok (.iconst (-1), 1) := by decide +kernel
theorem dX12_guess_58 : decode cX12_guess 58 = .ok (.goto 7, 3) := by decide +kernel
theorem dX12_guess_61 : decode cX12_guess 61 = .ok (.aload_n 0, 1) := by decide +kernel
theorem dX12_guess_62 : decode cX12_guess 62 = .ok (.getfield 487, 3) := by decide +kernel
theorem dX12_guess_65 : decode cX12_guess 65 = .ok (.ireturn, 1) := by decide +kernel
theorem dX12_guess_66 : decode cX12_guess 66 = .ok (.aload_n 0, 1) := by decide +kernel
theorem dX12_guess_67 : decode cX12_guess 67 = .ok (.getfield 487, 3) := by decide +kernel
theorem dX12_guess_70 : decode cX12_guess 70 = .ok (.ifCond .le 17, 3) := by decide +kernel
theorem dX12_guess_73 : decode cX12_guess 73 = .ok (.iload_n 3, 1) := by decide +kernel
theorem dX12_guess_74 : decode cX12_guess 74 = .ok (.iload_n 2, 1) := by decide +kernel
theorem dX12_guess_75 : decode cX12_guess 75 = .ok (.iconst 3, 1) := by decide +kernel
theorem dX12_guess_76 : decode cX12_guess 76 = .ok (.irem, 1) := by decide +kernel
theorem dX12_guess_77 : decode cX12_guess 77 = .ok (.invokestatic 471, 3) := by decide +kernel
theorem dX12_guess_80 : decode cX12_guess 80 = .ok (.ifCond .eq 7, 3) := by decide +kernel
theorem dX12_guess_83 : decode cX12_guess 83 = .ok (.iconst 1, 1) := by decide +kernel
theorem dX12_guess_84 : decode cX12_guess 84 = .ok (.goto 4, 3) := by decide +kernel
theorem dX12_guess_87 : decode cX12_guess 87 = .ok (.iconst 0, 1) := by decide +kernel
theorem dX12_guess_88 : decode cX12_guess 88 = .ok (.istore 4, 2) := by decide +kernel
theorem dX12_guess_90 : decode cX12_guess 90 = .ok (.iload 4, 2) := by decide +kernel
theorem dX12_guess_92 : decode cX12_guess 92 = .ok (.ifCond .ne 7, 3) := by decide +kernel
theorem dX12_guess_95 : decode cX12_guess 95 = .ok (.iconst (-1), 1) := by decide +kernel
theorem dX12_guess_96 : decode cX12_guess 96 = .ok (.goto 25, 3) := by decide +kernel
theorem dX12_guess_99 : decode cX12_guess 99 = .ok (.iload_n 2, 1) := by decide +kernel
theorem dX12_guess_100 : decode cX12_guess 100 = .ok (.iconst 3, 1) := by decide +kernel
theorem dX12_guess_101 : decode cX12_guess 101 = .ok (.if_icmp .ge 12, 3) := by decide +kernel
theorem dX12_guess_104 : decode cX12_guess 104 = .ok (.aload_n 0, 1) := by decide +kernel
theorem dX12_guess_105 : decode cX12_guess 105 = .ok (.getfield 80, 3) := by decide +kernel
theorem dX12_guess_108 : decode cX12_guess 108 = .ok (.iload_n 2, 1) := by decide +kernel
theorem dX12_guess_109 : decode cX12_guess 109 = .ok (.iaload, 1) := by decide +kernel
theorem dX12_guess_110 : decode cX12_guess 110 = .ok (.goto 11, 3) := by decide +kernel
theorem dX12_guess_113 : decode cX12_guess 113 = .ok (.aload_n 0, 1) := by decide +kernel
theorem dX12_guess_114 : decode cX12_guess 114 = .ok (.getfield 83, 3) := by decide +kernel
theorem dX12_guess_117 : decode cX12_guess 117 = .ok (.iload_n 2, 1) := by decide +kernel
theorem dX12_guess_118 : decode cX12_guess 118 = .ok (.iconst 3, 1) := by decide +kernel
theorem dX12_guess_119 : decode cX12_guess 119 = .ok (.isub, 1) := by decide +kernel
theorem dX12_guess_120 : decode cX12_guess 120 = .ok (.iaload, 1) := by decide +kernel
theorem dX12_guess_121 : decode cX12_guess 121 = .ok (.ireturn, 1) := by decide +kernel
theorem dX12_isScript_0 : decode cX12_isScript 0 = .ok (.iload_n 1, 1) := by decide +kernel
theorem dX12_isScript_1 : decode cX12_isScript 1 = .ok (.iconst 0, 1) := by decide +kernel
theorem dX12_isScript_2 : decode cX12_isScript 2 = .ok (.aload_n 0, 1) := by decide +kernel
theorem dX12_isScript_3 : decode cX12_isScript 3 = .ok (.getfield 293, 3) := by decide +kernel
theorem dX12_isScript_6 : decode cX12_isScript 6 = .ok (.iconst 1, 1) := by decide +kernel
theorem dX12_isScript_7 : decode cX12_isScript 7 = .ok (.isub, 1) := by decide +kernel
theorem dX12_isScript_8 : decode cX12_isScript 8 = .ok (.invokestatic 100, 3) := by decide +kernel
theorem dX12_isScript_11 : decode cX12_isScript 11 = .ok (.ireturn, 1) := by decide +kernel
theorem dX12_step_0 : decode cX12_step 0 = .ok (.aload_n 0, 1) := by decide +kernel
theorem dX12_step_1 : decode cX12_step 1 = .ok (.iload_n 1, 1) := by decide +kernel
theorem dX12_step_2 : decode cX12_step 2 = .ok (.invokevirtual 493, 3) := by decide +kernel
theorem dX12_step_5 : decode cX12_step 5 = .ok (.ifCond .eq 28, 3) := by decide +kernel
theorem dX12_step_8 : decode cX12_step 8 = .ok (.iload_n 2, 1) := by decide +kernel
theorem dX12_step_9 : decode cX12_step 9 = .ok (.iconst 0, 1) := by decide +kernel
theorem dX12_step_10 : decode cX12_step 10 = .ok (.aload_n 0, 1) := by decide +kernel
theorem dX12_step_11 : decode cX12_step 11 = .ok (.getfield 44, 3) := by decide +kernel
theorem dX12_step_14 : decode cX12_step 14 = .ok (.iload_n 1, 1) := by decide +kernel
theorem dX12_step_15 : decode cX12_step 15 = .ok (.iaload, 1) := by decide +kernel
theorem dX12_step_16 : decode cX12_step 16 = .ok (.iconst 1, 1) := by decide +kernel
theorem dX12_step_17 : decode cX12_step 17 = .ok (.isub, 1) := by decide +kernel
theorem dX12_step_18 : decode cX12_step 18 = .ok (.invokestatic 100, 3) := by decide +kernel
theorem dX12_step_21 : decode cX12_step 21 = .ok (.ifCond .eq 12, 3) := by decide +kernel
theorem dX12_step_24 : decode cX12_step 24 = .ok (.iload_n 3, 1) := by decide +kernel
theorem dX12_step_25 : decode cX12_step 25 = .ok (.iconst 0, 1) := by decide +kernel
theorem dX12_step_26 : decode cX12_step 26 = .ok (.iconst 4, 1) := by decide +kernel
theorem dX12_step_27 : decode cX12_step 27 = .ok (.invokestatic 100, 3) := by decide +kernel
theorem dX12_step_30 : decode cX12_step 30 = .ok (.ifCond .ne 7, 3) := by decide +kernel
theorem dX12_step_33 : decode cX12_step 33 = .ok (.ldc_w 259, 3) := by decide +kernel
theorem dX12_step_36 : decode cX12_step 36 = .ok (.ireturn, 1) := by decide +kernel
theorem dX12_step_37 : decode cX12_step 37 = .ok (.iload_n 3, 1) := by decide +kernel
theorem dX12_step_38 : decode cX12_step 38 = .ok (.iconst 4, 1) := by decide +kernel
theorem dX12_step_39 : decode cX12_step 39 = .ok (.if_icmp .ne 20, 3) := by decide +kernel
theorem dX12_step_42 : decode cX12_step 42 = .ok (.aload_n 0, 1) := by decide +kernel
theorem dX12_step_43 : decode cX12_step 43 = .ok (.getfield 41, 3) := by decide +kernel
theorem dX12_step_46 : decode cX12_step 46 = .ok (.bipush 12, 2) := by decide +kernel
theorem dX12_step_48 : decode cX12_step 48 = .ok (.iload_n 1, 1) := by decide +kernel
theorem dX12_step_49 : decode cX12_step 49 = .ok (.imul, 1) := by decide +kernel
theorem dX12_step_50 : decode cX12_step 50 = .ok (.iload_n 2, 1) := by decide +kernel
theorem dX12_step_51 : decode cX12_step 51 = .ok (.iadd, 1) := by decide +kernel
theorem dX12_step_52 : decode cX12_step 52 = .ok (.laload, 1) := by decide +kernel
theorem dX12_step_53 : decode cX12_step 53 = .ok (.invokestatic 304, 3) := by decide +kernel
theorem dX12_step_56 : decode cX12_step 56 = .ok (.goto 18, 3) := by decide +kernel
theorem dX12_step_59 : decode cX12_step 59 = .ok (.aload_n 0, 1) := by decide +kernel
theorem dX12_step_60 : decode cX12_step 60 = .ok (.getfield 38, 3) := by decide +kernel
theorem dX12_step_63 : decode cX12_step 63 = .ok (.iconst 4, 1) := by decide +kernel
theorem dX12_step_64 : decode cX12_step 64 = .ok (.bipush 12, 2) := by decide +kernel
theorem dX12_step_66 : decode cX12_step 66 = .ok (.iload_n 1, 1) := by decide +kernel
theorem dX12_step_67 : decode cX12_step 67 = .ok (.imul, 1) := by decide +kernel
theorem dX12_step_68 : decode cX12_step 68 = .ok (.iload_n 2, 1) := by decide +kernel
theorem dX12_step_69 : decode cX12_step 69 = .ok (.iadd, 1) := by decide +kernel
theorem dX12_step_70 : decode cX12_step 70 = .ok (.imul, 1) := by decide +kernel
theorem dX12_step_71 : decode cX12_step 71 = .ok (.iload_n 3, 1) := by decide +kernel
theorem dX12_step_72 : decode cX12_step 72 = .ok (.iadd, 1) := by decide +kernel
theorem dX12_step_73 : decode cX12_step 73 = .ok (.iaload, 1) := by decide +kernel
theorem dX12_step_74 : decode cX12_step 74 = .ok (.ireturn, 1) := by decide +kernel
theorem dX12_goSteps_0 : decode cX12_goSteps 0 = .ok (.iconst 0, 1) := by decide +kernel
theorem dX12_goSteps_1 : decode cX12_goSteps 1 = .ok (.istore_n 3, 1) := by decide +kernel
theorem dX12_goSteps_2 : decode cX12_goSteps 2 = .ok (.iload_n 3, 1) := by decide +kernel
theorem dX12_goSteps_3 : decode cX12_goSteps 3 = .ok (.aload_n 0, 1) := by decide +kernel
theorem dX12_goSteps_4 : decode cX12_goSteps 4 = .ok (.getfield 44, 3) := by decide +kernel
theorem dX12_goSteps_7 : decode cX12_goSteps 7 = .ok (.iload_n 1, 1) := by decide +kernel
theorem dX12_goSteps_8 : decode cX12_goSteps 8 = .ok (.iaload, 1) := by decide +kernel
theorem dX12_goSteps_9 : decode cX12_goSteps 9 = .ok (.if_icmp .ge 167, 3) := by decide +kernel
theorem dX12_goSteps_12 : decode cX12_goSteps 12 = .ok (.iconst 4, 1) := by decide +kernel
theorem dX12_goSteps_13 : decode cX12_goSteps 13 = .ok (.bipush 12, 2) := by decide +kernel
theorem dX12_goSteps_15 : decode cX12_goSteps 15 = .ok (.iload_n 1, 1) := by decide +kernel
theorem dX12_goSteps_16 : decode cX12_goSteps 16 = .ok (.imul, 1) := by decide +kernel
theorem dX12_goSteps_17 : decode cX12_goSteps 17 = .ok (.iload_n 3, 1) := by decide +kernel
theorem dX12_goSteps_18 : decode cX12_goSteps 18 = .ok (.iadd, 1) := by decide +kernel
theorem dX12_goSteps_19 : decode cX12_goSteps 19 = .ok (.imul, 1) := by decide +kernel
theorem dX12_goSteps_20 : decode cX12_goSteps 20 = .ok (.istore 4, 2) := by decide +kernel
theorem dX12_goSteps_22 : decode cX12_goSteps 22 = .ok (.aload_n 0, 1) := by decide +kernel
theorem dX12_goSteps_23 : decode cX12_goSteps 23 = .ok (.getfield 41, 3) := by decide +kernel
theorem dX12_goSteps_26 : decode cX12_goSteps 26 = .ok (.bipush 12, 2) := by decide +kernel
theorem dX12_goSteps_28 : decode cX12_goSteps 28 = .ok (.iload_n 1, 1) := by decide +kernel
theorem dX12_goSteps_29 : decode cX12_goSteps 29 = .ok (.imul, 1) := by decide +kernel
theorem dX12_goSteps_30 : decode cX12_goSteps 30 = .ok (.iload_n 3, 1) := by decide +kernel
theorem dX12_goSteps_31 : decode cX12_goSteps 31 = .ok (.iadd, 1) := by decide +kernel
theorem dX12_goSteps_32 : decode cX12_goSteps 32 = .ok (.laload, 1) := by decide +kernel
theorem dX12_goSteps_33 : decode cX12_goSteps 33 = .ok (.lstore 5, 2) := by decide +kernel
theorem dX12_goSteps_35 : decode cX12_goSteps 35 = .ok (.aload_n 0, 1) := by decide +kernel
theorem dX12_goSteps_36 : decode cX12_goSteps 36 = .ok (.aload_n 0, 1) := by decide +kernel
theorem dX12_goSteps_37 : decode cX12_goSteps 37 = .ok (.getfield 38, 3) := by decide +kernel
theorem dX12_goSteps_40 : decode cX12_goSteps 40 = .ok (.iload 4, 2) := by decide +kernel
theorem dX12_goSteps_42 : decode cX12_goSteps 42 = .ok (.iaload, 1) := by decide +kernel
theorem dX12_goSteps_43 : decode cX12_goSteps 43 = .ok (.aload_n 0, 1) := by decide +kernel
theorem dX12_goSteps_44 : decode cX12_goSteps 44 = .ok (.getfield 38, 3) := by decide +kernel
theorem dX12_goSteps_47 : decode cX12_goSteps 47 = .ok (.iload 4, 2) := by decide +kernel
theorem dX12_goSteps_49 : decode cX12_goSteps 49 = .ok (.iconst 1, 1) := by decide +kernel
theorem dX12_goSteps_50 : decode cX12_goSteps 50 = .ok (.iadd, 1) := by decide +kernel
theorem dX12_goSteps_51 : decode cX12_goSteps 51 = .ok (.iaload, 1) := by decide +kernel
theorem dX12_goSteps_52 : decode cX12_goSteps 52 = .ok (.aload_n 0, 1) := by decide +kernel
theorem dX12_goSteps_53 : decode cX12_goSteps 53 = .ok (.getfield 38, 3) := by decide +kernel
theorem dX12_goSteps_56 : decode cX12_goSteps 56 = .ok (.iload 4, 2) := by decide +kernel
theorem dX12_goSteps_58 : decode cX12_goSteps 58 = .ok (.iconst 2, 1) := by decide +kernel
theorem dX12_goSteps_59 : decode cX12_goSteps 59 = .ok (.iadd, 1) := by decide +kernel
theorem dX12_goSteps_60 : decode cX12_goSteps 60 = .ok (.iaload, 1) := by decide +kernel
theorem dX12_goSteps_61 : decode cX12_goSteps 61 = .ok (.aload_n 0, 1) := by decide +kernel
theorem dX12_goSteps_62 : decode cX12_goSteps 62 = .ok (.getfield 38, 3) := by decide +kernel
theorem dX12_goSteps_65 : decode cX12_goSteps 65 = .ok (.iload 4, 2) := by decide +kernel
theorem dX12_goSteps_67 : decode cX12_goSteps 67 = .ok (.iconst 3, 1) := by decide +kernel
theorem dX12_goSteps_68 : decode cX12_goSteps 68 = .ok (.iadd, 1) := by decide +kernel
theorem dX12_goSteps_69 : decode cX12_goSteps 69 = .ok (.iaload, 1) := by decide +kernel
theorem dX12_goSteps_70 : decode cX12_goSteps 70 = .ok (.lload 5, 2) := by decide +kernel
theorem dX12_goSteps_72 : decode cX12_goSteps 72 = .ok (.invokevirtual 411, 3) := by decide +kernel
theorem dX12_goSteps_75 : decode cX12_goSteps 75 = .ok (.iconst (-1), 1) := by decide +kernel
theorem dX12_goSteps_76 : decode cX12_goSteps 76 = .ok (.if_icmp .eq 5, 3) := by decide +kernel
theorem dX12_goSteps_79 : decode cX12_goSteps 79 = .ok (.iload_n 3, 1) := by decide +kernel
theorem dX12_goSteps_80 : decode cX12_goSteps 80 = .ok (.ireturn, 1) := by decide +kernel
theorem dX12_goSteps_81 : decode cX12_goSteps 81 = .ok (.iload_n 2, 1) := by decide +kernel
theorem dX12_goSteps_82 : decode cX12_goSteps 82 = .ok (.ifCond .eq 47, 3) := by decide +kernel
theorem dX12_goSteps_85 : decode cX12_goSteps 85 = .ok (.aload_n 0, 1) := by decide +kernel
theorem dX12_goSteps_86 : decode cX12_goSteps 86 = .ok (.aload_n 0, 1) := by decide +kernel
theorem dX12_goSteps_87 : decode cX12_goSteps 87 = .ok (.getfield 38, 3) := by decide +kernel
theorem dX12_goSteps_90 : decode cX12_goSteps 90 = .ok (.iload 4, 2) := by decide +kernel
theorem dX12_goSteps_92 : decode cX12_goSteps 92 = .ok (.iaload, 1) := by decide +kernel
theorem dX12_goSteps_93 : decode cX12_goSteps 93 = .ok (.aload_n 0, 1) := by decide +kernel
theorem dX12_goSteps_94 : decode cX12_goSteps 94 = .ok (.getfield 38, 3) := by decide +kernel
theorem dX12_goSteps_97 : decode cX12_goSteps 97 = .ok (.iload 4, 2) := by decide +kernel
theorem dX12_goSteps_99 : decode cX12_goSteps 99 = .ok (.iconst 1, 1) := by decide +kernel
theorem dX12_goSteps_100 : decode cX12_goSteps 100 = .ok (.iadd, 1) := by decide +kernel
theorem dX12_goSteps_101 : decode cX12_goSteps 101 = .ok (.iaload, 1) := by decide +kernel
theorem dX12_goSteps_102 : decode cX12_goSteps 102 = .ok (.aload_n 0, 1) := by decide +kernel
theorem dX12_goSteps_103 : decode cX12_goSteps 103 = .ok (.getfield 38, 3) := by decide +kernel
theorem dX12_goSteps_106 : decode cX12_goSteps 106 = .ok (.iload 4, 2) := by decide +kernel
theorem dX12_goSteps_108 : decode cX12_goSteps 108 = .ok (.iconst 2, 1) := by decide +kernel
theorem dX12_goSteps_109 : decode cX12_goSteps 109 = .ok (.iadd, 1) := by decide +kernel
theorem dX12_goSteps_110 : decode cX12_goSteps 110 = .ok (.iaload, 1) := by decide +kernel
theorem dX12_goSteps_111 : decode cX12_goSteps 111 = .ok (.aload_n 0, 1) := by decide +kernel
theorem dX12_goSteps_112 : decode cX12_goSteps 112 = .ok (.getfield 38, 3) := by decide +kernel
theorem dX12_goSteps_115 : decode cX12_goSteps 115 = .ok (.iload 4, 2) := by decide +kernel
theorem dX12_goSteps_117 : decode cX12_goSteps 117 = .ok (.iconst 3, 1) := by decide +kernel
theorem dX12_goSteps_118 : decode cX12_goSteps 118 = .ok (.iadd, 1) := by decide +kernel
theorem dX12_goSteps_119 : decode cX12_goSteps 119 = .ok (.iaload, 1) := by decide +kernel
theorem dX12_goSteps_120 : decode cX12_goSteps 120 = .ok (.lload 5, 2) := by decide +kernel
theorem dX12_goSteps_122 : decode cX12_goSteps 122 = .ok (.invokevirtual 414, 3) := by decide +kernel
theorem dX12_goSteps_125 : decode cX12_goSteps 125 = .ok (.pop, 1) := by decide +kernel
theorem dX12_goSteps_126 : decode cX12_goSteps 126 = .ok (.goto 44, 3) := by decide +kernel
theorem dX12_goSteps_129 : decode cX12_goSteps 129 = .ok (.aload_n 0, 1) := by decide +kernel
theorem dX12_goSteps_130 : decode cX12_goSteps 130 = .ok (.aload_n 0, 1) := by decide +kernel
theorem dX12_goSteps_131 : decode cX12_goSteps 131 = .ok (.getfield 38, 3) := by decide +kernel
theorem dX12_goSteps_134 : decode cX12_goSteps 134 = .ok (.iload 4, 2) := by decide +kernel
theorem dX12_goSteps_136 : decode cX12_goSteps 136 = .ok (.iaload, 1) := by decide +kernel
theorem dX12_goSteps_137 : decode cX12_goSteps 137 = .ok (.aload_n 0, 1) := by decide +kernel
theorem dX12_goSteps_138 : decode cX12_goSteps 138 = .ok (.getfield 38, 3) := by decide +kernel
theorem dX12_goSteps_141 : decode cX12_goSteps 141 = .ok (.iload 4, 2) := by decide +kernel
theorem dX12_goSteps_143 : decode cX12_goSteps 143 = .ok (.iconst 1, 1) := by decide +kernel
theorem dX12_goSteps_144 : decode cX12_goSteps 144 = .ok (.iadd, 1) := by decide +kernel
theorem dX12_goSteps_145 : decode cX12_goSteps 145 = .ok (.iaload, 1) := by decide +kernel
theorem dX12_goSteps_146 : decode cX12_goSteps 146 = .ok (.aload_n 0, 1) := by decide +kernel
theorem dX12_goSteps_147 : decode cX12_goSteps 147 = .ok (.getfield 38, 3) := by decide +kernel
theorem dX12_goSteps_150 : decode cX12_goSteps 150 = .ok (.iload 4, 2) := by decide +kernel
theorem dX12_goSteps_152 : decode cX12_goSteps 152 = .ok (.iconst 2, 1) := by decide +kernel
theorem dX12_goSteps_153 : decode cX12_goSteps 153 = .ok (.iadd, 1) := by decide +kernel
theorem dX12_goSteps_154 : decode cX12_goSteps 154 = .ok (.iaload, 1) := by decide +kernel
theorem dX12_goSteps_155 : decode cX12_goSteps 155 = .ok (.aload_n 0, 1) := by decide +kernel
theorem dX12_goSteps_156 : decode cX12_goSteps 156 = .ok (.getfield 38, 3) := by decide +kernel
theorem dX12_goSteps_159 : decode cX12_goSteps 159 = .ok (.iload 4, 2) := by decide +kernel
theorem dX12_goSteps_161 : decode cX12_goSteps 161 = .ok (.iconst 3, 1) := by decide +kernel
theorem dX12_goSteps_162 : decode cX12_goSteps 162 = .ok (.iadd, 1) := by decide +kernel
theorem dX12_goSteps_163 : decode cX12_goSteps 163 = .ok (.iaload, 1) := by decide +kernel
theorem dX12_goSteps_164 : decode cX12_goSteps 164 = .ok (.lload 5, 2) := by decide +kernel
theorem dX12_goSteps_166 : decode cX12_goSteps 166 = .ok (.invokevirtual 403, 3) := by decide +kernel
theorem dX12_goSteps_169 : decode cX12_goSteps 169 = .ok (.pop, 1) := by decide +kernel
theorem dX12_goSteps_170 : decode cX12_goSteps 170 = .ok (.iinc 3 1, 3) := by decide +kernel
theorem dX12_goSteps_173 : decode cX12_goSteps 173 = .ok (.goto (-171), 3) := by decide +kernel
theorem dX12_goSteps_176 : decode cX12_goSteps 176 = .ok (.aload_n 0, 1) := by decide +kernel
theorem dX12_goSteps_177 : decode cX12_goSteps 177 = .ok (.getfield 44, 3) := by decide +kernel
theorem dX12_goSteps_180 : decode cX12_goSteps 180 = .ok (.iload_n 1, 1) := by decide +kernel
theorem dX12_goSteps_181 : decode cX12_goSteps 181 = .ok (.iaload, 1) := by decide +kernel
theorem dX12_goSteps_182 : decode cX12_goSteps 182 = .ok (.ireturn, 1) := by decide +kernel
theorem dX12_run_0 : decode cX12_run 0 = .ok (.aload_n 0, 1) := by decide +kernel
theorem dX12_run_1 : decode cX12_run 1 = .ok (.iload_n 1, 1) := by decide +kernel
theorem dX12_run_2 : decode cX12_run 2 = .ok (.invokevirtual 493, 3) := by decide +kernel
theorem dX12_run_5 : decode cX12_run 5 = .ok (.ifCond .eq 19, 3) := by decide +kernel
theorem dX12_run_8 : decode cX12_run 8 = .ok (.aload_n 0, 1) := by decide +kernel
theorem dX12_run_9 : decode cX12_run 9 = .ok (.invokevirtual 272, 3) := by decide +kernel
theorem dX12_run_12 : decode cX12_run 12 = .ok (.ifCond .eq 12, 3) := by decide +kernel
theorem dX12_run_15 : decode cX12_run 15 = .ok (.iload_n 2, 1) := by decide +kernel
theorem dX12_run_16 : decode cX12_run 16 = .ok (.iconst 0, 1) := by decide +kernel
theorem dX12_run_17 : decode cX12_run 17 = .ok (.iconst 1, 1) := by decide +kernel
theorem dX12_run_18 : decode cX12_run 18 = .ok (.invokestatic 100, 3) := by decide +kernel
theorem dX12_run_21 : decode cX12_run 21 = .ok (.ifCond .ne 7, 3) := by decide +kernel
theorem dX12_run_24 : decode cX12_run 24 = .ok (.ldc_w 259, 3) := by decide +kernel
theorem dX12_run_27 : decode cX12_run 27 = .ok (.ireturn, 1) := by decide +kernel
theorem dX12_run_28 : decode cX12_run 28 = .ok (.aload_n 0, 1) := by decide +kernel
theorem dX12_run_29 : decode cX12_run 29 = .ok (.invokevirtual 478, 3) := by decide +kernel
theorem dX12_run_32 : decode cX12_run 32 = .ok (.aload_n 0, 1) := by decide +kernel
theorem dX12_run_33 : decode cX12_run 33 = .ok (.iload_n 1, 1) := by decide +kernel
theorem dX12_run_34 : decode cX12_run 34 = .ok (.iconst 0, 1) := by decide +kernel
theorem dX12_run_35 : decode cX12_run 35 = .ok (.invokevirtual 496, 3) := by decide +kernel
theorem dX12_run_38 : decode cX12_run 38 = .ok (.istore_n 3, 1) := by decide +kernel
theorem dX12_run_39 : decode cX12_run 39 = .ok (.aload_n 0, 1) := by decide +kernel
theorem dX12_run_40 : decode cX12_run 40 = .ok (.invokevirtual 392, 3) := by decide +kernel
theorem dX12_run_43 : decode cX12_run 43 = .ok (.istore 4, 2) := by decide +kernel
theorem dX12_run_45 : decode cX12_run 45 = .ok (.aload_n 0, 1) := by decide +kernel
theorem dX12_run_46 : decode cX12_run 46 = .ok (.invokevirtual 481, 3) := by decide +kernel
theorem dX12_run_49 : decode cX12_run 49 = .ok (.iload_n 2, 1) := by decide +kernel
theorem dX12_run_50 : decode cX12_run 50 = .ok (.iconst 1, 1) := by decide +kernel
theorem dX12_run_51 : decode cX12_run 51 = .ok (.if_icmp .ne 8, 3) := by decide +kernel
theorem dX12_run_54 : decode cX12_run 54 = .ok (.iload 4, 2) := by decide +kernel
theorem dX12_run_56 : decode cX12_run 56 = .ok (.goto 18, 3) := by decide +kernel
theorem dX12_run_59 : decode cX12_run 59 = .ok (.iload_n 3, 1) := by decide +kernel
theorem dX12_run_60 : decode cX12_run 60 = .ok (.aload_n 0, 1) := by decide +kernel
theorem dX12_run_61 : decode cX12_run 61 = .ok (.getfield 44, 3) := by decide +kernel
theorem dX12_run_64 : decode cX12_run 64 = .ok (.iload_n 1, 1) := by decide +kernel
theorem dX12_run_65 : decode cX12_run 65 = .ok (.iaload, 1) := by decide +kernel
theorem dX12_run_66 : decode cX12_run 66 = .ok (.if_icmp .ne 7, 3) := by decide +kernel
theorem dX12_run_69 : decode cX12_run 69 = .ok (.iconst (-1), 1) := by decide +kernel
theorem dX12_run_70 : decode cX12_run 70 = .ok (.goto 4, 3) := by decide +kernel
theorem dX12_run_73 : decode cX12_run 73 = .ok (.iload_n 3, 1) := by decide +kernel
theorem dX12_run_74 : decode cX12_run 74 = .ok (.ireturn, 1) := by decide +kernel
theorem dX12_perform_0 : decode cX12_perform 0 = .ok (.aload_n 0, 1) := by decide +kernel
theorem dX12_perform_1 : decode cX12_perform 1 = .ok (.iload_n 1, 1) := by decide +kernel
theorem dX12_perform_2 : decode cX12_perform 2 = .ok (.invokevirtual 493, 3) := by decide +kernel
theorem dX12_perform_5 : decode cX12_perform 5 = .ok (.ifCond .eq 19, 3) := by decide +kernel
theorem dX12_perform_8 : decode cX12_perform 8 = .ok (.aload_n 0, 1) := by decide +kernel
theorem dX12_perform_9 : decode cX12_perform 9 = .ok (.invokevirtual 272, 3) := by decide +kernel
theorem dX12_perform_12 : decode cX12_perform 12 = .ok (.ifCond .eq 12, 3) := by decide +kernel
theorem dX12_perform_15 : decode cX12_perform 15 = .ok (.aload_n 0, 1) := by decide +kernel
theorem dX12_perform_16 : decode cX12_perform 16 = .ok (.iload_n 1, 1) := by decide +kernel
theorem dX12_perform_17 : decode cX12_perform 17 = .ok (.iconst 1, 1) := by decide +kernel
theorem dX12_perform_18 : decode cX12_perform 18 = .ok (.invokevirtual 496, 3) := by decide +kernel
theorem dX12_perform_21 : decode cX12_perform 21 = .ok (.goto 4, 3) := by decide +kernel
theorem dX12_perform_24 : decode cX12_perform 24 = .ok (.iconst (-1), 1) := by decide +kernel
theorem dX12_perform_25 : decode cX12_perform 25 = .ok (.ireturn, 1) := by decide +kernel
theorem dX12_laysLongest_0 : decode cX12_laysLongest 0 = .ok (.aload_n 0, 1) := by decide +kernel
theorem dX12_laysLongest_1 : decode cX12_laysLongest 1 = .ok (.iconst (-1), 1) := by decide +kernel
theorem dX12_laysLongest_2 : decode cX12_laysLongest 2 = .ok (.putfield 500, 3) := by decide +kernel
theorem dX12_laysLongest_5 : decode cX12_laysLongest 5 = .ok (.aload_n 0, 1) := by decide +kernel
theorem dX12_laysLongest_6 : decode cX12_laysLongest 6 = .ok (.iconst 0, 1) := by decide +kernel
theorem dX12_laysLongest_7 : decode cX12_laysLongest 7 = .ok (.putfield 503, 3) := by decide +kernel
theorem dX12_laysLongest_10 : decode cX12_laysLongest 10 = .ok (.iconst 0, 1) := by decide +kernel
theorem dX12_laysLongest_11 : decode cX12_laysLongest 11 = .ok (.istore_n 1, 1) := by decide +kernel
theorem dX12_laysLongest_12 : decode cX12_laysLongest 12 = .ok (.iload_n 1, 1) := by decide +kernel
theorem dX12_laysLongest_13 : decode cX12_laysLongest 13 = .ok (.aload_n 0, 1) := by decide +kernel
theorem dX12_laysLongest_14 : decode cX12_laysLongest 14 = .ok (.getfield 275, 3) := by decide +kernel
theorem dX12_laysLongest_17 : decode cX12_laysLongest 17 = .ok (.if_icmp .ge 49, 3) := by decide +kernel
theorem dX12_laysLongest_20 : decode cX12_laysLongest 20 = .ok (.aload_n 0, 1) := by decide +kernel
theorem dX12_laysLongest_21 : decode cX12_laysLongest 21 = .ok (.iload_n 1, 1) := by decide +kernel
theorem dX12_laysLongest_22 : decode cX12_laysLongest 22 = .ok (.invokevirtual 364, 3) := by decide +kernel
theorem dX12_laysLongest_25 : decode cX12_laysLongest 25 = .ok (.ifCond .eq 35, 3) := by decide +kernel
theorem dX12_laysLongest_28 : decode cX12_laysLongest 28 = .ok (.aload_n 0, 1) := by decide +kernel
theorem dX12_laysLongest_29 : decode cX12_laysLongest 29 = .ok (.getfield 500, 3) := by decide +kernel
theorem dX12_laysLongest_32 : decode cX12_laysLongest 32 = .ok (.iconst (-1), 1) := by decide +kernel
theorem dX12_laysLongest_33 : decode cX12_laysLongest 33 = .ok (.if_icmp .eq 14, 3) := by decide +kernel
theorem dX12_laysLongest_36 : decode cX12_laysLongest 36 = .ok (.aload_n 0, 1) := by decide +kernel
theorem dX12_laysLongest_37 : decode cX12_laysLongest 37 = .ok (.getfield 308, 3) := by decide +kernel
theorem dX12_laysLongest_40 : decode cX12_laysLongest 40 = .ok (.aload_n 0, 1) := by decide +kernel
theorem dX12_laysLongest_41 : decode cX12_laysLongest 41 = .ok (.getfield 503, 3) := by decide +kernel
theorem dX12_laysLongest_44 : decode cX12_laysLongest 44 = .ok (.if_icmp .le 16, 3) := by decide +kernel
theorem dX12_laysLongest_47 : decode cX12_laysLongest 47 = .ok (.aload_n 0, 1) := by decide +kernel
theorem dX12_laysLongest_48 : decode cX12_laysLongest 48 = .ok (.iload_n 1, 1) := by decide +kernel
theorem dX12_laysLongest_49 : decode cX12_laysLongest 49 = .ok (.putfield 500, 3) := by decide +kernel
theorem dX12_laysLongest_52 : decode cX12_laysLongest 52 = .ok (.aload_n 0, 1) := by decide +kernel
theorem dX12_laysLongest_53 : decode cX12_laysLongest 53 = .ok (.aload_n 0, 1) := by decide +kernel
theorem dX12_laysLongest_54 : decode cX12_laysLongest 54 = .ok (.getfield 308, 3) := by decide +kernel
theorem dX12_laysLongest_57 : decode cX12_laysLongest 57 = .ok (.putfield 503, 3) := by decide +kernel
theorem dX12_laysLongest_60 : decode cX12_laysLongest 60 = .ok (.iinc 1 1, 3) := by decide +kernel
theorem dX12_laysLongest_63 : decode cX12_laysLongest 63 = .ok (.goto (-51), 3) := by decide +kernel
theorem dX12_laysLongest_66 : decode cX12_laysLongest 66 = .ok (.return_, 1) := by decide +kernel
theorem dX12_missingOfAll_0 : decode cX12_missingOfAll 0 = .ok (.iconst 0, 1) := by decide +kernel
theorem dX12_missingOfAll_1 : decode cX12_missingOfAll 1 = .ok (.istore_n 1, 1) := by decide +kernel
theorem dX12_missingOfAll_2 : decode cX12_missingOfAll 2 = .ok (.iconst 0, 1) := by decide +kernel
theorem dX12_missingOfAll_3 : decode cX12_missingOfAll 3 = .ok (.istore_n 2, 1) := by decide +kernel
theorem dX12_missingOfAll_4 : decode cX12_missingOfAll 4 = .ok (.iload_n 2, 1) := by decide +kernel
theorem dX12_missingOfAll_5 : decode cX12_missingOfAll 5 = .ok (.aload_n 0, 1) := by decide +kernel
theorem dX12_missingOfAll_6 : decode cX12_missingOfAll 6 = .ok (.getfield 275, 3) := by decide +kernel
theorem dX12_missingOfAll_9 : decode cX12_missingOfAll 9 = .ok (.if_icmp .ge 17, 3) := by decide +kernel
theorem dX12_missingOfAll_12 : decode cX12_missingOfAll 12 = .ok (.iload_n 1, 1) := by decide +kernel
theorem dX12_missingOfAll_13 : decode cX12_missingOfAll 13 = .ok (.aload_n 0, 1) := by decide +kernel
theorem dX12_missingOfAll_14 : decode cX12_missingOfAll 14 = .ok (.iload_n 2, 1) := by decide +kernel
theorem dX12_missingOfAll_15 : decode cX12_missingOfAll 15 = .ok (.invokevirtual 465, 3) := by decide +kernel
theorem dX12_missingOfAll_18 : decode cX12_missingOfAll 18 = .ok (.iadd, 1) := by decide +kernel
theorem dX12_missingOfAll_19 : decode cX12_missingOfAll 19 = .ok (.istore_n 1, 1) := by decide +kernel
theorem dX12_missingOfAll_20 : decode cX12_missingOfAll 20 = .ok (.iinc 2 1, 3) := by decide +kernel
theorem dX12_missingOfAll_23 : decode cX12_missingOfAll 23 = .ok (.goto (-19), 3) := by decide +kernel
theorem dX12_missingOfAll_26 : decode cX12_missingOfAll 26 = .ok (.iload_n 1, 1) := by decide +kernel
theorem dX12_missingOfAll_27 : decode cX12_missingOfAll 27 = .ok (.ireturn, 1) := by decide +kernel
theorem dX12_poorestNoun_0 : decode cX12_poorestNoun 0 = .ok (.iconst 0, 1) := by decide +kernel
theorem dX12_poorestNoun_1 : decode cX12_poorestNoun 1 = .ok (.istore_n 1, 1) := by decide +kernel
theorem dX12_poorestNoun_2 : decode cX12_poorestNoun 2 = .ok (.iconst 1, 1) := by decide +kernel
theorem dX12_poorestNoun_3 : decode cX12_poorestNoun 3 = .ok (.istore_n 2, 1) := by decide +kernel
theorem dX12_poorestNoun_4 : decode cX12_poorestNoun 4 = .ok (.iload_n 2, 1) := by decide +kernel
theorem dX12_poorestNoun_5 : decode cX12_poorestNoun 5 = .ok (.aload_n 0, 1) := by decide +kernel
theorem dX12_poorestNoun_6 : decode cX12_poorestNoun 6 = .ok (.getfield 269, 3) := by decide +kernel
theorem dX12_poorestNoun_9 : decode cX12_poorestNoun 9 = .ok (.if_icmp .ge 28, 3) := by decide +kernel
theorem dX12_poorestNoun_12 : decode cX12_poorestNoun 12 = .ok (.aload_n 0, 1) := by decide +kernel
theorem dX12_poorestNoun_13 : decode cX12_poorestNoun 13 = .ok (.iload_n 2, 1) := by decide +kernel
theorem dX12_poorestNoun_14 : decode cX12_poorestNoun 14 = .ok (.invokevirtual 395, 3) := by decide +kernel
theorem dX12_poorestNoun_17 : decode cX12_poorestNoun 17 = .ok (.aload_n 0, 1) := by decide +kernel
theorem dX12_poorestNoun_18 : decode cX12_poorestNoun 18 = .ok (.iload_n 1, 1) := by decide +kernel
theorem dX12_poorestNoun_19 : decode cX12_poorestNoun 19 = .ok (.invokevirtual 395, 3) := by decide +kernel
theorem dX12_poorestNoun_22 : decode cX12_poorestNoun 22 = .ok (.if_icmp .ge 7, 3) := by decide +kernel
theorem dX12_poorestNoun_25 : decode cX12_poorestNoun 25 = .ok (.iload_n 2, 1) := by decide +kernel
theorem dX12_poorestNoun_26 : decode cX12_poorestNoun 26 = .ok (.goto 4, 3) := by decide +kernel
theorem dX12_poorestNoun_29 : decode cX12_poorestNoun 29 = .ok (.iload_n 1, 1) := by decide +kernel
theorem dX12_poorestNoun_30 : decode cX12_poorestNoun 30 = .ok (.istore_n 1, 1) := by decide +kernel
theorem dX12_poorestNoun_31 : decode cX12_poorestNoun 31 = .ok (.iinc 2 1, 3) := by decide +kernel
theorem dX12_poorestNoun_34 : decode cX12_poorestNoun 34 = .ok (.goto (-30), 3) := by decide +kernel
theorem dX12_poorestNoun_37 : decode cX12_poorestNoun 37 = .ok (.iload_n 1, 1) := by decide +kernel
theorem dX12_poorestNoun_38 : decode cX12_poorestNoun 38 = .ok (.ireturn, 1) := by decide +kernel
theorem dX12_filled_0 : decode cX12_filled 0 = .ok (.iconst 0, 1) := by decide +kernel
theorem dX12_filled_1 : decode cX12_filled 1 = .ok (.istore_n 1, 1) := by decide +kernel
theorem dX12_filled_2 : decode cX12_filled 2 = .ok (.iconst 0, 1) := by decide +kernel
theorem dX12_filled_3 : decode cX12_filled 3 = .ok (.istore_n 2, 1) := by decide +kernel
theorem dX12_filled_4 : decode cX12_filled 4 = .ok (.iload_n 2, 1) := by decide +kernel
theorem dX12_filled_5 : decode cX12_filled 5 = .ok (.iconst 3, 1) := by decide +kernel
theorem dX12_filled_6 : decode cX12_filled 6 = .ok (.if_icmp .ge 28, 3) := by decide +kernel
theorem dX12_filled_9 : decode cX12_filled 9 = .ok (.iload_n 1, 1) := by decide +kernel
theorem dX12_filled_10 : decode cX12_filled 10 = .ok (.aload_n 0, 1) := by decide +kernel
theorem dX12_filled_11 : decode cX12_filled 11 = .ok (.iload_n 2, 1) := by decide +kernel
theorem dX12_filled_12 : decode cX12_filled 12 = .ok (.invokevirtual 330, 3) := by decide +kernel
theorem dX12_filled_15 : decode cX12_filled 15 = .ok (.iconst (-1), 1) := by decide +kernel
theorem dX12_filled_16 : decode cX12_filled 16 = .ok (.if_icmp .eq 9, 3) := by decide +kernel
theorem dX12_filled_19 : decode cX12_filled 19 = .ok (.iconst 1, 1) := by decide +kernel
theorem dX12_filled_20 : decode cX12_filled 20 = .ok (.iload_n 2, 1) := by decide +kernel
theorem dX12_filled_21 : decode cX12_filled 21 = .ok (.ishl, 1) := by decide +kernel
theorem dX12_filled_22 : decode cX12_filled 22 = .ok (.goto 4, 3) := by decide +kernel
theorem dX12_filled_25 : decode cX12_filled 25 = .ok (.iconst 0, 1) := by decide +kernel
theorem dX12_filled_26 : decode cX12_filled 26 = .ok (.ior, 1) := by decide +kernel
theorem dX12_filled_27 : decode cX12_filled 27 = .ok (.istore_n 1, 1) := by decide +kernel
theorem dX12_filled_28 : decode cX12_filled 28 = .ok (.iinc 2 1, 3) := by decide +kernel
theorem dX12_filled_31 : decode cX12_filled 31 = .ok (.goto (-27), 3) := by decide +kernel
theorem dX12_filled_34 : decode cX12_filled 34 = .ok (.iload_n 1, 1) := by decide +kernel
theorem dX12_filled_35 : decode cX12_filled 35 = .ok (.ireturn, 1) := by decide +kernel
theorem dX12_isTwice_0 : decode cX12_isTwice 0 = .ok (.iconst 0, 1) := by decide +kernel
theorem dX12_isTwice_1 : decode cX12_isTwice 1 = .ok (.istore_n 3, 1) := by decide +kernel
theorem dX12_isTwice_2 : decode cX12_isTwice 2 = .ok (.iload_n 3, 1) := by decide +kernel
theorem dX12_isTwice_3 : decode cX12_isTwice 3 = .ok (.bipush 8, 2) := by decide +kernel
theorem dX12_isTwice_5 : decode cX12_isTwice 5 = .ok (.if_icmp .ge 71, 3) := by decide +kernel
theorem dX12_isTwice_8 : decode cX12_isTwice 8 = .ok (.iload_n 3, 1) := by decide +kernel
theorem dX12_isTwice_9 : decode cX12_isTwice 9 = .ok (.iload_n 2, 1) := by decide +kernel
theorem dX12_isTwice_10 : decode cX12_isTwice 10 = .ok (.if_icmp .eq 60, 3) := by decide +kernel
theorem dX12_isTwice_13 : decode cX12_isTwice 13 = .ok (.aload_n 0, 1) := by decide +kernel
theorem dX12_isTwice_14 : decode cX12_isTwice 14 = .ok (.getfield 47, 3) := by decide +kernel
theorem dX12_isTwice_17 : decode cX12_isTwice 17 = .ok (.bipush 7, 2) := by decide +kernel
theorem dX12_isTwice_19 : decode cX12_isTwice 19 = .ok (.bipush 8, 2) := by decide +kernel
theorem dX12_isTwice_21 : decode cX12_isTwice 21 = .ok (.iload_n 1, 1) := by decide +kernel
theorem dX12_isTwice_22 : decode cX12_isTwice 22 = .ok (.imul, 1) := by decide +kernel
theorem dX12_isTwice_23 : decode cX12_isTwice 23 = .ok (.iadd, 1) := by decide +kernel
theorem dX12_isTwice_24 : decode cX12_isTwice 24 = .ok (.iload_n 3, 1) := by decide +kernel
theorem dX12_isTwice_25 : decode cX12_isTwice 25 = .ok (.iadd, 1) := by decide +kernel
theorem dX12_isTwice_26 : decode cX12_isTwice 26 = .ok (.laload, 1) := by decide +kernel
theorem dX12_isTwice_27 : decode cX12_isTwice 27 = .ok (.aload_n 0, 1) := by decide +kernel
theorem dX12_isTwice_28 : decode cX12_isTwice 28 = .ok (.getfield 47, 3) := by decide +kernel
theorem dX12_isTwice_31 : decode cX12_isTwice 31 = .ok (.bipush 7, 2) := by decide +kernel
theorem dX12_isTwice_33 : decode cX12_isTwice 33 = .ok (.bipush 8, 2) := by decide +kernel
theorem dX12_isTwice_35 : decode cX12_isTwice 35 = .ok (.iload_n 1, 1) := by decide +kernel
theorem dX12_isTwice_36 : decode cX12_isTwice 36 = .ok (.imul, 1) := by decide +kernel
theorem dX12_isTwice_37 : decode cX12_isTwice 37 = .ok (.iadd, 1) := by decide +kernel
theorem dX12_isTwice_38 : decode cX12_isTwice 38 = .ok (.iload_n 2, 1) := by decide +kernel
theorem dX12_isTwice_39 : decode cX12_isTwice 39 = .ok (.iadd, 1) := by decide +kernel
theorem dX12_isTwice_40 : decode cX12_isTwice 40 = .ok (.laload, 1) := by decide +kernel
theorem dX12_isTwice_41 : decode cX12_isTwice 41 = .ok (.lcmp, 1) := by decide +kernel
theorem dX12_isTwice_42 : decode cX12_isTwice 42 = .ok (.ifCond .ne 28, 3) := by decide +kernel
theorem dX12_isTwice_45 : decode cX12_isTwice 45 = .ok (.aload_n 0, 1) := by decide +kernel
theorem dX12_isTwice_46 : decode cX12_isTwice 46 = .ok (.getfield 47, 3) := by decide +kernel
theorem dX12_isTwice_49 : decode cX12_isTwice 49 = .ok (.bipush 7, 2) := by decide +kernel
theorem dX12_isTwice_51 : decode cX12_isTwice 51 = .ok (.bipush 8, 2) := by decide +kernel
theorem dX12_isTwice_53 : decode cX12_isTwice 53 = .ok (.iload_n 1, 1) := by decide +kernel
theorem dX12_isTwice_54 : decode cX12_isTwice 54 = .ok (.imul, 1) := by decide +kernel
theorem dX12_isTwice_55 : decode cX12_isTwice 55 = .ok (.iadd, 1) := by decide +kernel
theorem dX12_isTwice_56 : decode cX12_isTwice 56 = .ok (.iload_n 2, 1) := by decide +kernel
theorem dX12_isTwice_57 : decode cX12_isTwice 57 = .ok (.iadd, 1) := by decide +kernel
theorem dX12_isTwice_58 : decode cX12_isTwice 58 = .ok (.laload, 1) := by decide +kernel
theorem dX12_isTwice_59 : decode cX12_isTwice 59 = .ok (.lconst 0, 1) := by decide +kernel
theorem dX12_isTwice_60 : decode cX12_isTwice 60 = .ok (.lcmp, 1) := by decide +kernel
theorem dX12_isTwice_61 : decode cX12_isTwice 61 = .ok (.ifCond .eq 7, 3) := by decide +kernel
theorem dX12_isTwice_64 : decode cX12_isTwice 64 = .ok (.iconst 1, 1) := by decide +kernel
theorem dX12_isTwice_65 : decode cX12_isTwice 65 = .ok (.goto 4, 3) := by decide +kernel
theorem dX12_isTwice_68 : decode cX12_isTwice 68 = .ok (.iconst 0, 1) := by decide +kernel
theorem dX12_isTwice_69 : decode cX12_isTwice 69 = .ok (.ireturn, 1) := by decide +kernel
theorem dX12_isTwice_70 : decode cX12_isTwice 70 = .ok (.iinc 3 1, 3) := by decide +kernel
theorem dX12_isTwice_73 : decode cX12_isTwice 73 = .ok (.goto (-71), 3) := by decide +kernel
theorem dX12_isTwice_76 : decode cX12_isTwice 76 = .ok (.iconst 0, 1) := by decide +kernel
theorem dX12_isTwice_77 : decode cX12_isTwice 77 = .ok (.ireturn, 1) := by decide +kernel
theorem dX12_twiceOnes_0 : decode cX12_twiceOnes 0 = .ok (.iconst 0, 1) := by decide +kernel
theorem dX12_twiceOnes_1 : decode cX12_twiceOnes 1 = .ok (.istore_n 1, 1) := by decide +kernel
theorem dX12_twiceOnes_2 : decode cX12_twiceOnes 2 = .ok (.iconst 0, 1) := by decide +kernel
theorem dX12_twiceOnes_3 : decode cX12_twiceOnes 3 = .ok (.istore_n 2, 1) := by decide +kernel
theorem dX12_twiceOnes_4 : decode cX12_twiceOnes 4 = .ok (.iload_n 2, 1) := by decide +kernel
theorem dX12_twiceOnes_5 : decode cX12_twiceOnes 5 = .ok (.aload_n 0, 1) := by decide +kernel
theorem dX12_twiceOnes_6 : decode cX12_twiceOnes 6 = .ok (.getfield 269, 3) := by decide +kernel
theorem dX12_twiceOnes_9 : decode cX12_twiceOnes 9 = .ok (.if_icmp .ge 40, 3) := by decide +kernel
theorem dX12_twiceOnes_12 : decode cX12_twiceOnes 12 = .ok (.iconst 0, 1) := by decide +kernel
theorem dX12_twiceOnes_13 : decode cX12_twiceOnes 13 = .ok (.istore_n 3, 1) := by decide +kernel
theorem dX12_twiceOnes_14 : decode cX12_twiceOnes 14 = .ok (.iload_n 3, 1) := by decide +kernel
theorem dX12_twiceOnes_15 : decode cX12_twiceOnes 15 = .ok (.bipush 8, 2) := by decide +kernel
theorem dX12_twiceOnes_17 : decode cX12_twiceOnes 17 = .ok (.if_icmp .ge 26, 3) := by decide +kernel
theorem dX12_twiceOnes_20 : decode cX12_twiceOnes 20 = .ok (.iload_n 1, 1) := by decide +kernel
theorem dX12_twiceOnes_21 : decode cX12_twiceOnes 21 = .ok (.aload_n 0, 1) := by decide +kernel
theorem dX12_twiceOnes_22 : decode cX12_twiceOnes 22 = .ok (.iload_n 2, 1) := by decide +kernel
theorem dX12_twiceOnes_23 : decode cX12_twiceOnes 23 = .ok (.iload_n 3, 1) := by decide +kernel
theorem dX12_twiceOnes_24 : decode cX12_twiceOnes 24 = .ok (.invokevirtual 506, 3) := by decide +kernel
theorem dX12_twiceOnes_27 : decode cX12_twiceOnes 27 = .ok (.ifCond .eq 7, 3) := by decide +kernel
theorem dX12_twiceOnes_30 : decode cX12_twiceOnes 30 = .ok (.iconst 1, 1) := by decide +kernel
theorem dX12_twiceOnes_31 : decode cX12_twiceOnes 31 = .ok (.goto 4, 3) := by decide +kernel
theorem dX12_twiceOnes_34 : decode cX12_twiceOnes 34 = .ok (.iconst 0, 1) := by decide +kernel
theorem dX12_twiceOnes_35 : decode cX12_twiceOnes 35 = .ok (.iadd, 1) := by decide +kernel
theorem dX12_twiceOnes_36 : decode cX12_twiceOnes 36 = .ok (.istore_n 1, 1) := by decide +kernel
theorem dX12_twiceOnes_37 : decode cX12_twiceOnes 37 = .ok (.iinc 3 1, 3) := by decide +kernel
theorem dX12_twiceOnes_40 : decode cX12_twiceOnes 40 = .ok (.goto (-26), 3) := by decide +kernel
theorem dX12_twiceOnes_43 : decode cX12_twiceOnes 43 = .ok (.iinc 2 1, 3) := by decide +kernel
theorem dX12_twiceOnes_46 : decode cX12_twiceOnes 46 = .ok (.goto (-42), 3) := by decide +kernel
theorem dX12_twiceOnes_49 : decode cX12_twiceOnes 49 = .ok (.iload_n 1, 1) := by decide +kernel
theorem dX12_twiceOnes_50 : decode cX12_twiceOnes 50 = .ok (.ireturn, 1) := by decide +kernel
theorem dX12_messagesWhy_0 : decode cX12_messagesWhy 0 = .ok (.iconst 0, 1) := by decide +kernel
theorem dX12_messagesWhy_1 : decode cX12_messagesWhy 1 = .ok (.istore_n 2, 1) := by decide +kernel
theorem dX12_messagesWhy_2 : decode cX12_messagesWhy 2 = .ok (.iconst 0, 1) := by decide +kernel
theorem dX12_messagesWhy_3 : decode cX12_messagesWhy 3 = .ok (.istore_n 3, 1) := by decide +kernel
theorem dX12_messagesWhy_4 : decode cX12_messagesWhy 4 = .ok (.iload_n 3, 1) := by decide +kernel
theorem dX12_messagesWhy_5 : decode cX12_messagesWhy 5 = .ok (.aload_n 0, 1) := by decide +kernel
theorem dX12_messagesWhy_6 : decode cX12_messagesWhy 6 = .ok (.getfield 275, 3) := by decide +kernel
theorem dX12_messagesWhy_9 : decode cX12_messagesWhy 9 = .ok (.if_icmp .ge 33, 3) := by decide +kernel
theorem dX12_messagesWhy_12 : decode cX12_messagesWhy 12 = .ok (.iload_n 2, 1) := by decide +kernel
theorem dX12_messagesWhy_13 : decode cX12_messagesWhy 13 = .ok (.aload_n 0, 1) := by decide +kernel
theorem dX12_messagesWhy_14 : decode cX12_messagesWhy 14 = .ok (.iload_n 3, 1) := by decide +kernel
theorem dX12_messagesWhy_15 : decode cX12_messagesWhy 15 = .ok (.invokevirtual 364, 3) := by decide +kernel
theorem dX12_messagesWhy_18 : decode cX12_messagesWhy 18 = .ok (.ifCond .ne 15, 3) := by decide +kernel
theorem dX12_messagesWhy_21 : decode cX12_messagesWhy 21 = .ok (.aload_n 0, 1) := by decide +kernel
theorem dX12_messagesWhy_22 : decode cX12_messagesWhy 22 = .ok (.getfield 327, 3) := by decide +kernel
theorem dX12_messagesWhy_25 : decode cX12_messagesWhy 25 = .ok (.iload_n 1, 1) := by decide +kernel
theorem dX12_messagesWhy_26 : decode cX12_messagesWhy 26 = .ok (.if_icmp .ne 7, 3) := by decide +kernel
theorem dX12_messagesWhy_29 : decode cX12_messagesWhy 29 = .ok (.iconst 1, 1) := by decide +kernel
theorem dX12_messagesWhy_30 : decode cX12_messagesWhy 30 = .ok (.goto 4, 3) := by decide +kernel
theorem dX12_messagesWhy_33 : decode cX12_messagesWhy 33 = .ok (.iconst 0, 1) := by decide +kernel
theorem dX12_messagesWhy_34 : decode cX12_messagesWhy 34 = .ok (.iadd, 1) := by decide +kernel
theorem dX12_messagesWhy_35 : decode cX12_messagesWhy 35 = .ok (.istore_n 2, 1) := by decide +kernel
theorem dX12_messagesWhy_36 : decode cX12_messagesWhy 36 = .ok (.iinc 3 1, 3) := by decide +kernel
theorem dX12_messagesWhy_39 : decode cX12_messagesWhy 39 = .ok (.goto (-35), 3) := by decide +kernel
theorem dX12_messagesWhy_42 : decode cX12_messagesWhy 42 = .ok (.iload_n 2, 1) := by decide +kernel
theorem dX12_messagesWhy_43 : decode cX12_messagesWhy 43 = .ok (.ireturn, 1) := by decide +kernel
theorem dX12_most_0 : decode cX12_most 0 = .ok (.aload_n 0, 1) := by decide +kernel
theorem dX12_most_1 : decode cX12_most 1 = .ok (.invokevirtual 272, 3) := by decide +kernel
theorem dX12_most_4 : decode cX12_most 4 = .ok (.ifCond .eq 13, 3) := by decide +kernel
theorem dX12_most_7 : decode cX12_most 7 = .ok (.iload_n 1, 1) := by decide +kernel
theorem dX12_most_8 : decode cX12_most 8 = .ok (.iconst 0, 1) := by decide +kernel
theorem dX12_most_9 : decode cX12_most 9 = .ok (.bipush 10, 2) := by decide +kernel
theorem dX12_most_11 : decode cX12_most 11 = .ok (.invokestatic 100, 3) := by decide +kernel
theorem dX12_most_14 : decode cX12_most 14 = .ok (.ifCond .ne 7, 3) := by decide +kernel
theorem dX12_most_17 : decode cX12_most 17 = .ok (.ldc_w 259, 3) := by decide +kernel
theorem dX12_most_20 : decode cX12_most 20 = .ok (.ireturn, 1) := by decide +kernel
theorem dX12_most_21 : decode cX12_most 21 = .ok (.aload_n 0, 1) := by decide +kernel
theorem dX12_most_22 : decode cX12_most 22 = .ok (.invokevirtual 509, 3) := by decide +kernel
theorem dX12_most_25 : decode cX12_most 25 = .ok (.iload_n 1, 1) := by decide +kernel
theorem dX12_most_26 : decode cX12_most 26 = .ok (.tableswitch 68 0 5 #[38, 43, 48, 53, 58, 63], 38) := by decide +kernel
theorem dX12_most_64 : decode cX12_most 64 = .ok (.aload_n 0, 1) := by decide +kernel
theorem dX12_most_65 : decode cX12_most 65 = .ok (.getfield 500, 3) := by decide +kernel
theorem dX12_most_68 : decode cX12_most 68 = .ok (.ireturn, 1) := by decide +kernel
theorem dX12_most_69 : decode cX12_most 69 = .ok (.aload_n 0, 1) := by decide +kernel
theorem dX12_most_70 : decode cX12_most 70 = .ok (.getfield 503, 3) := by decide +kernel
theorem dX12_most_73 : decode cX12_most 73 = .ok (.ireturn, 1) := by decide +kernel
theorem dX12_most_74 : decode cX12_most 74 = .ok (.aload_n 0, 1) := by decide +kernel
theorem dX12_most_75 : decode cX12_most 75 = .ok (.invokevirtual 512, 3) := by decide +kernel
theorem dX12_most_78 : decode cX12_most 78 = .ok (.ireturn, 1) := by decide +kernel
theorem dX12_most_79 : decode cX12_most 79 = .ok (.aload_n 0, 1) := by decide +kernel
theorem dX12_most_80 : decode cX12_most 80 = .ok (.invokevirtual 515, 3) := by decide +kernel
theorem dX12_most_83 : decode cX12_most 83 = .ok (.ireturn, 1) := by decide +kernel
theorem dX12_most_84 : decode cX12_most 84 = .ok (.aload_n 0, 1) := by decide +kernel
theorem dX12_most_85 : decode cX12_most 85 = .ok (.invokevirtual 518, 3) := by decide +kernel
theorem dX12_most_88 : decode cX12_most 88 = .ok (.ireturn, 1) := by decide +kernel
theorem dX12_most_89 : decode cX12_most 89 = .ok (.aload_n 0, 1) := by decide +kernel
theorem dX12_most_90 : decode cX12_most 90 = .ok (.invokevirtual 521, 3) := by decide +kernel
theorem dX12_most_93 : decode cX12_most 93 = .ok (.ireturn, 1) := by decide +kernel
theorem dX12_most_94 : decode cX12_most 94 = .ok (.aload_n 0, 1) := by decide +kernel
theorem dX12_most_95 : decode cX12_most 95 = .ok (.iload_n 1, 1) := by decide +kernel
theorem dX12_most_96 : decode cX12_most 96 = .ok (.bipush 6, 2) := by decide +kernel
theorem dX12_most_98 : decode cX12_most 98 = .ok (.isub, 1) := by decide +kernel
theorem dX12_most_99 : decode cX12_most 99 = .ok (.invokevirtual 524, 3) := by decide +kernel
theorem dX12_most_102 : decode cX12_most 102 = .ok (.ireturn, 1) := by decide +kernel
theorem dX12_image_0 : decode cX12_image 0 = .ok (.aload_n 0, 1) := by decide +kernel
theorem dX12_image_1 : decode cX12_image 1 = .ok (.invokevirtual 272, 3) := by decide +kernel
theorem dX12_image_4 : decode cX12_image 4 = .ok (.ifCond .ne 5, 3) := by decide +kernel
theorem dX12_image_7 : decode cX12_image 7 = .ok (.iconst (-1), 1) := by decide +kernel
theorem dX12_image_8 : decode cX12_image 8 = .ok (.ireturn, 1) := by decide +kernel
theorem dX12_image_9 : decode cX12_image 9 = .ok (.iconst 0, 1) := by decide +kernel
theorem dX12_image_10 : decode cX12_image 10 = .ok (.istore_n 1, 1) := by decide +kernel
theorem dX12_image_11 : decode cX12_image 11 = .ok (.iload_n 1, 1) := by decide +kernel
theorem dX12_image_12 : decode cX12_image 12 = .ok (.sipush 236, 3) := by decide +kernel
theorem dX12_image_15 : decode cX12_image 15 = .ok (.if_icmp .ge 21, 3) := by decide +kernel
theorem dX12_image_18 : decode cX12_image 18 = .ok (.aload_n 0, 1) := by decide +kernel
theorem dX12_image_19 : decode cX12_image 19 = .ok (.getfield 86, 3) := by decide +kernel
theorem dX12_image_22 : decode cX12_image 22 = .ok (.iload_n 1, 1) := by decide +kernel
theorem dX12_image_23 : decode cX12_image 23 = .ok (.aload_n 0, 1) := by decide +kernel
theorem dX12_image_24 : decode cX12_image 24 = .ok (.getfield 47, 3) := by decide +kernel
theorem dX12_image_27 : decode cX12_image 27 = .ok (.iload_n 1, 1) := by decide +kernel
theorem dX12_image_28 : decode cX12_image 28 = .ok (.laload, 1) := by decide +kernel
theorem dX12_image_29 : decode cX12_image 29 = .ok (.lastore, 1) := by decide +kernel
theorem dX12_image_30 : decode cX12_image 30 = .ok (.iinc 1 1, 3) := by decide +kernel
theorem dX12_image_33 : decode cX12_image 33 = .ok (.goto (-22), 3) := by decide +kernel
theorem dX12_image_36 : decode cX12_image 36 = .ok (.aload_n 0, 1) := by decide +kernel
theorem dX12_image_37 : decode cX12_image 37 = .ok (.iconst 1, 1) := by decide +kernel
theorem dX12_image_38 : decode cX12_image 38 = .ok (.putfield 286, 3) := by decide +kernel
theorem dX12_image_41 : decode cX12_image 41 = .ok (.aload_n 0, 1) := by decide +kernel
theorem dX12_image_42 : decode cX12_image 42 = .ok (.invokevirtual 392, 3) := by decide +kernel
theorem dX12_image_45 : decode cX12_image 45 = .ok (.ireturn, 1) := by decide +kernel
theorem dX12_back_0 : decode cX12_back 0 = .ok (.aload_n 0, 1) := by decide +kernel
theorem dX12_back_1 : decode cX12_back 1 = .ok (.getfield 286, 3) := by decide +kernel
theorem dX12_back_4 : decode cX12_back 4 = .ok (.ifCond .ne 5, 3) := by decide +kernel
theorem dX12_back_7 : decode cX12_back 7 = .ok (.iconst (-1), 1) := by decide +kernel
theorem dX12_back_8 : decode cX12_back 8 = .ok (.ireturn, 1) := by decide +kernel
theorem dX12_back_9 : decode cX12_back 9 = .ok (.iconst 0, 1) := by decide +kernel
theorem dX12_back_10 : decode cX12_back 10 = .ok (.istore_n 1, 1) := by decide +kernel
theorem dX12_back_11 : decode cX12_back 11 = .ok (.iload_n 1, 1) := by decide +kernel
theorem dX12_back_12 : decode cX12_back 12 = .ok (.sipush 236, 3) := by decide +kernel
theorem dX12_back_15 : decode cX12_back 15 = .ok (.if_icmp .ge 21, 3) := by decide +kernel
theorem dX12_back_18 : decode cX12_back 18 = .ok (.aload_n 0, 1) := by decide +kernel
theorem dX12_back_19 : decode cX12_back 19 = .ok (.getfield 47, 3) := by decide +kernel
theorem dX12_back_22 : decode cX12_back 22 = .ok (.iload_n 1, 1) := by decide +kernel
theorem dX12_back_23 : decode cX12_back 23 = .ok (.aload_n 0, 1) := by decide +kernel
theorem dX12_back_24 : decode cX12_back 24 = .ok (.getfield 86, 3) := by decide +kernel
theorem dX12_back_27 : decode cX12_back 27 = .ok (.iload_n 1, 1) := by decide +kernel
theorem dX12_back_28 : decode cX12_back 28 = .ok (.laload, 1) := by decide +kernel
theorem dX12_back_29 : decode cX12_back 29 = .ok (.lastore, 1) := by decide +kernel
theorem dX12_back_30 : decode cX12_back 30 = .ok (.iinc 1 1, 3) := by decide +kernel
theorem dX12_back_33 : decode cX12_back 33 = .ok (.goto (-22), 3) := by decide +kernel
theorem dX12_back_36 : decode cX12_back 36 = .ok (.aload_n 0, 1) := by decide +kernel
theorem dX12_back_37 : decode cX12_back 37 = .ok (.iconst 0, 1) := by decide +kernel
theorem dX12_back_38 : decode cX12_back 38 = .ok (.putfield 283, 3) := by decide +kernel
theorem dX12_back_41 : decode cX12_back 41 = .ok (.aload_n 0, 1) := by decide +kernel
theorem dX12_back_42 : decode cX12_back 42 = .ok (.invokevirtual 392, 3) := by decide +kernel
theorem dX12_back_45 : decode cX12_back 45 = .ok (.ireturn, 1) := by decide +kernel
theorem dX12_count_0 : decode cX12_count 0 = .ok (.iload_n 1, 1) := by decide +kernel
theorem dX12_count_1 : decode cX12_count 1 = .ok (.tableswitch 64 0 4 #[35, 40, 45, 50, 59], 35) := by decide +kernel
theorem dX12_count_36 : decode cX12_count 36 = .ok (.aload_n 0, 1) := by decide +kernel
theorem dX12_count_37 : decode cX12_count 37 = .ok (.getfield 269, 3) := by decide +kernel
theorem dX12_count_40 : decode cX12_count 40 = .ok (.ireturn, 1) := by decide +kernel
theorem dX12_count_41 : decode cX12_count 41 = .ok (.aload_n 0, 1) := by decide +kernel
theorem dX12_count_42 : decode cX12_count 42 = .ok (.getfield 293, 3) := by decide +kernel
theorem dX12_count_45 : decode cX12_count 45 = .ok (.ireturn, 1) := by decide +kernel
theorem dX12_count_46 : decode cX12_count 46 = .ok (.aload_n 0, 1) := by decide +kernel
theorem dX12_count_47 : decode cX12_count 47 = .ok (.getfield 97, 3) := by decide +kernel
theorem dX12_count_50 : decode cX12_count 50 = .ok (.ireturn, 1) := by decide +kernel
theorem dX12_count_51 : decode cX12_count 51 = .ok (.aload_n 0, 1) := by decide +kernel
theorem dX12_count_52 : decode cX12_count 52 = .ok (.getfield 47, 3) := by decide +kernel
theorem dX12_count_55 : decode cX12_count 55 = .ok (.bipush 55, 2) := by decide +kernel
theorem dX12_count_57 : decode cX12_count 57 = .ok (.laload, 1) := by decide +kernel
theorem dX12_count_58 : decode cX12_count 58 = .ok (.l2i, 1) := by decide +kernel
theorem dX12_count_59 : decode cX12_count 59 = .ok (.ireturn, 1) := by decide +kernel
theorem dX12_count_60 : decode cX12_count 60 = .ok (.aload_n 0, 1) := by decide +kernel
theorem dX12_count_61 : decode cX12_count 61 = .ok (.getfield 283, 3) := by decide +kernel
theorem dX12_count_64 : decode cX12_count 64 = .ok (.ireturn, 1) := by decide +kernel
theorem dX12_count_65 : decode cX12_count 65 = .ok (.ldc_w 259, 3) := by decide +kernel
theorem dX12_count_68 : decode cX12_count 68 = .ok (.ireturn, 1) := by decide +kernel
