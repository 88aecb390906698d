theorem d_dg_settle_113 : decode b_dg_settle 113 = .ok (.lload 5, 2) := by decide +kernel
theorem d_dg_settle_115 : decode b_dg_settle 115 = .ok (.lastore, 1) := by decide +kernel
theorem d_dg_settle_116 : decode b_dg_settle 116 = .ok (.aload_n 0, 1) := by decide +kernel
theorem d_dg_settle_117 : decode b_dg_settle 117 = .ok (.getfield 21, 3) := by decide +kernel
theorem d_dg_settle_120 : decode b_dg_settle 120 = .ok (.iload_n 1, 1) := by decide +kernel
theorem d_dg_settle_121 : decode b_dg_settle 121 = .ok (.lload 5, 2) := by decide +kernel
theorem d_dg_settle_123 : decode b_dg_settle 123 = .ok (.invokestatic 46, 3) := by decide +kernel
theorem d_dg_settle_126 : decode b_dg_settle 126 = .ok (.iastore, 1) := by decide +kernel
theorem d_dg_settle_127 : decode b_dg_settle 127 = .ok (.return_, 1) := by decide +kernel
theorem d_dg_attach_0 : decode b_dg_attach 0 = .ok (.aload_n 0, 1) := by decide +kernel
theorem d_dg_attach_1 : decode b_dg_attach 1 = .ok (.getfield 34, 3) := by decide +kernel
theorem d_dg_attach_4 : decode b_dg_attach 4 = .ok (.iload_n 1, 1) := by decide +kernel
theorem d_dg_attach_5 : decode b_dg_attach 5 = .ok (.invokevirtual 56, 3) := by decide +kernel
theorem d_dg_attach_8 : decode b_dg_attach 8 = .ok (.lstore_n 2, 1) := by decide +kernel
theorem d_dg_attach_9 : decode b_dg_attach 9 = .ok (.aload_n 0, 1) := by decide +kernel
theorem d_dg_attach_10 : decode b_dg_attach 10 = .ok (.iload_n 1, 1) := by decide +kernel
theorem d_dg_attach_11 : decode b_dg_attach 11 = .ok (.lload_n 2, 1) := by decide +kernel
theorem d_dg_attach_12 : decode b_dg_attach 12 = .ok (.invokevirtual 82, 3) := by decide +kernel
theorem d_dg_attach_15 : decode b_dg_attach 15 = .ok (.iconst 0, 1) := by decide +kernel
theorem d_dg_attach_16 : decode b_dg_attach 16 = .ok (.istore 4, 2) := by decide +kernel
theorem d_dg_attach_18 : decode b_dg_attach 18 = .ok (.iload 4, 2) := by decide +kernel
theorem d_dg_attach_20 : decode b_dg_attach 20 = .ok (.aload_n 0, 1) := by decide +kernel
theorem d_dg_attach_21 : decode b_dg_attach 21 = .ok (.getfield 34, 3) := by decide +kernel
theorem d_dg_attach_24 : decode b_dg_attach 24 = .ok (.getfield 72, 3) := by decide +kernel
theorem d_dg_attach_27 : decode b_dg_attach 27 = .ok (.if_icmp .ge 37, 3) := by decide +kernel
theorem d_dg_attach_30 : decode b_dg_attach 30 = .ok (.aload_n 0, 1) := by decide +kernel
theorem d_dg_attach_31 : decode b_dg_attach 31 = .ok (.getfield 9, 3) := by decide +kernel
theorem d_dg_attach_34 : decode b_dg_attach 34 = .ok (.iload_n 1, 1) := by decide +kernel
theorem d_dg_attach_35 : decode b_dg_attach 35 = .ok (.laload, 1) := by decide +kernel
theorem d_dg_attach_36 : decode b_dg_attach 36 = .ok (.iload 4, 2) := by decide +kernel
theorem d_dg_attach_38 : decode b_dg_attach 38 = .ok (.invokestatic 52, 3) := by decide +kernel
theorem d_dg_attach_41 : decode b_dg_attach 41 = .ok (.ifCond .eq 17, 3) := by decide +kernel
theorem d_dg_attach_44 : decode b_dg_attach 44 = .ok (.aload_n 0, 1) := by decide +kernel
theorem d_dg_attach_45 : decode b_dg_attach 45 = .ok (.getfield 15, 3) := by decide +kernel
theorem d_dg_attach_48 : decode b_dg_attach 48 = .ok (.iload 4, 2) := by decide +kernel
theorem d_dg_attach_50 : decode b_dg_attach 50 = .ok (.dup2, 1) := by decide +kernel
theorem d_dg_attach_51 : decode b_dg_attach 51 = .ok (.laload, 1) := by decide +kernel
theorem d_dg_attach_52 : decode b_dg_attach 52 = .ok (.iload_n 1, 1) := by decide +kernel
theorem d_dg_attach_53 : decode b_dg_attach 53 = .ok (.invokestatic 79, 3) := by decide +kernel
theorem d_dg_attach_56 : decode b_dg_attach 56 = .ok (.lor, 1) := by decide +kernel
theorem d_dg_attach_57 : decode b_dg_attach 57 = .ok (.lastore, 1) := by decide +kernel
theorem d_dg_attach_58 : decode b_dg_attach 58 = .ok (.iinc 4 1, 3) := by decide +kernel
theorem d_dg_attach_61 : decode b_dg_attach 61 = .ok (.goto (-43), 3) := by decide +kernel
theorem d_dg_attach_64 : decode b_dg_attach 64 = .ok (.aload_n 0, 1) := by decide +kernel
theorem d_dg_attach_65 : decode b_dg_attach 65 = .ok (.dup, 1) := by decide +kernel
theorem d_dg_attach_66 : decode b_dg_attach 66 = .ok (.getfield 42, 3) := by decide +kernel
theorem d_dg_attach_69 : decode b_dg_attach 69 = .ok (.iload_n 1, 1) := by decide +kernel
theorem d_dg_attach_70 : decode b_dg_attach 70 = .ok (.invokestatic 79, 3) := by decide +kernel
theorem d_dg_attach_73 : decode b_dg_attach 73 = .ok (.lor, 1) := by decide +kernel
theorem d_dg_attach_74 : decode b_dg_attach 74 = .ok (.putfield 42, 3) := by decide +kernel
theorem d_dg_attach_77 : decode b_dg_attach 77 = .ok (.aload_n 0, 1) := by decide +kernel
theorem d_dg_attach_78 : decode b_dg_attach 78 = .ok (.aload_n 0, 1) := by decide +kernel
theorem d_dg_attach_79 : decode b_dg_attach 79 = .ok (.getfield 86, 3) := by decide +kernel
theorem d_dg_attach_82 : decode b_dg_attach 82 = .ok (.lload_n 2, 1) := by decide +kernel
theorem d_dg_attach_83 : decode b_dg_attach 83 = .ok (.ldc2_w 62, 3) := by decide +kernel
theorem d_dg_attach_86 : decode b_dg_attach 86 = .ok (.lxor, 1) := by decide +kernel
theorem d_dg_attach_87 : decode b_dg_attach 87 = .ok (.land, 1) := by decide +kernel
theorem d_dg_attach_88 : decode b_dg_attach 88 = .ok (.iload_n 1, 1) := by decide +kernel
theorem d_dg_attach_89 : decode b_dg_attach 89 = .ok (.invokestatic 79, 3) := by decide +kernel
theorem d_dg_attach_92 : decode b_dg_attach 92 = .ok (.lor, 1) := by decide +kernel
theorem d_dg_attach_93 : decode b_dg_attach 93 = .ok (.putfield 86, 3) := by decide +kernel
theorem d_dg_attach_96 : decode b_dg_attach 96 = .ok (.return_, 1) := by decide +kernel
theorem d_dg_size_0 : decode b_dg_size 0 = .ok (.aload_n 0, 1) := by decide +kernel
theorem d_dg_size_1 : decode b_dg_size 1 = .ok (.getfield 42, 3) := by decide +kernel
theorem d_dg_size_4 : decode b_dg_size 4 = .ok (.invokestatic 46, 3) := by decide +kernel
theorem d_dg_size_7 : decode b_dg_size 7 = .ok (.ireturn, 1) := by decide +kernel
theorem d_dg_settleVirtual_0 : decode b_dg_settleVirtual 0 = .ok (.aload_n 0, 1) := by decide +kernel
theorem d_dg_settleVirtual_1 : decode b_dg_settleVirtual 1 = .ok (.bipush 60, 2) := by decide +kernel
theorem d_dg_settleVirtual_3 : decode b_dg_settleVirtual 3 = .ok (.aload_n 0, 1) := by decide +kernel
theorem d_dg_settleVirtual_4 : decode b_dg_settleVirtual 4 = .ok (.getfield 86, 3) := by decide +kernel
theorem d_dg_settleVirtual_7 : decode b_dg_settleVirtual 7 = .ok (.invokevirtual 82, 3) := by decide +kernel
theorem d_dg_settleVirtual_10 : decode b_dg_settleVirtual 10 = .ok (.aload_n 0, 1) := by decide +kernel
theorem d_dg_settleVirtual_11 : decode b_dg_settleVirtual 11 = .ok (.invokevirtual 68, 3) := by decide +kernel
theorem d_dg_settleVirtual_14 : decode b_dg_settleVirtual 14 = .ok (.istore_n 1, 1) := by decide +kernel
theorem d_dg_settleVirtual_15 : decode b_dg_settleVirtual 15 = .ok (.bipush 60, 2) := by decide +kernel
theorem d_dg_settleVirtual_17 : decode b_dg_settleVirtual 17 = .ok (.istore_n 2, 1) := by decide +kernel
theorem d_dg_settleVirtual_18 : decode b_dg_settleVirtual 18 = .ok (.iconst 0, 1) := by decide +kernel
theorem d_dg_settleVirtual_19 : decode b_dg_settleVirtual 19 = .ok (.istore_n 3, 1) := by decide +kernel
theorem d_dg_settleVirtual_20 : decode b_dg_settleVirtual 20 = .ok (.iload_n 3, 1) := by decide +kernel
theorem d_dg_settleVirtual_21 : decode b_dg_settleVirtual 21 = .ok (.bipush 60, 2) := by decide +kernel
theorem d_dg_settleVirtual_23 : decode b_dg_settleVirtual 23 = .ok (.if_icmp .ge 61, 3) := by decide +kernel
theorem d_dg_settleVirtual_26 : decode b_dg_settleVirtual 26 = .ok (.iload_n 2, 1) := by decide +kernel
theorem d_dg_settleVirtual_27 : decode b_dg_settleVirtual 27 = .ok (.ifCond .eq 57, 3) := by decide +kernel
theorem d_dg_settleVirtual_30 : decode b_dg_settleVirtual 30 = .ok (.aload_n 0, 1) := by decide +kernel
theorem d_dg_settleVirtual_31 : decode b_dg_settleVirtual 31 = .ok (.aload_n 0, 1) := by decide +kernel
theorem d_dg_settleVirtual_32 : decode b_dg_settleVirtual 32 = .ok (.iload_n 2, 1) := by decide +kernel
theorem d_dg_settleVirtual_33 : decode b_dg_settleVirtual 33 = .ok (.invokevirtual 89, 3) := by decide +kernel
theorem d_dg_settleVirtual_36 : decode b_dg_settleVirtual 36 = .ok (.invokevirtual 92, 3) := by decide +kernel
theorem d_dg_settleVirtual_39 : decode b_dg_settleVirtual 39 = .ok (.istore 4, 2) := by decide +kernel
theorem d_dg_settleVirtual_41 : decode b_dg_settleVirtual 41 = .ok (.iload_n 1, 1) := by decide +kernel
theorem d_dg_settleVirtual_42 : decode b_dg_settleVirtual 42 = .ok (.iload 4, 2) := by decide +kernel
theorem d_dg_settleVirtual_44 : decode b_dg_settleVirtual 44 = .ok (.isub, 1) := by decide +kernel
theorem d_dg_settleVirtual_45 : decode b_dg_settleVirtual 45 = .ok (.istore_n 1, 1) := by decide +kernel
theorem d_dg_settleVirtual_46 : decode b_dg_settleVirtual 46 = .ok (.aload_n 0, 1) := by decide +kernel
theorem d_dg_settleVirtual_47 : decode b_dg_settleVirtual 47 = .ok (.getfield 31, 3) := by decide +kernel
theorem d_dg_settleVirtual_50 : decode b_dg_settleVirtual 50 = .ok (.iconst 0, 1) := by decide +kernel
theorem d_dg_settleVirtual_51 : decode b_dg_settleVirtual 51 = .ok (.aload_n 0, 1) := by decide +kernel
theorem d_dg_settleVirtual_52 : decode b_dg_settleVirtual 52 = .ok (.getfield 28, 3) := by decide +kernel
theorem d_dg_settleVirtual_55 : decode b_dg_settleVirtual 55 = .ok (.iload_n 1, 1) := by decide +kernel
theorem d_dg_settleVirtual_56 : decode b_dg_settleVirtual 56 = .ok (.iload 4, 2) := by decide +kernel
theorem d_dg_settleVirtual_58 : decode b_dg_settleVirtual 58 = .ok (.invokestatic 95, 3) := by decide +kernel
theorem d_dg_settleVirtual_61 : decode b_dg_settleVirtual 61 = .ok (.iinc 1 (-1), 3) := by decide +kernel
theorem d_dg_settleVirtual_64 : decode b_dg_settleVirtual 64 = .ok (.aload_n 0, 1) := by decide +kernel
theorem d_dg_settleVirtual_65 : decode b_dg_settleVirtual 65 = .ok (.getfield 25, 3) := by decide +kernel
theorem d_dg_settleVirtual_68 : decode b_dg_settleVirtual 68 = .ok (.iload_n 2, 1) := by decide +kernel
theorem d_dg_settleVirtual_69 : decode b_dg_settleVirtual 69 = .ok (.iaload, 1) := by decide +kernel
theorem d_dg_settleVirtual_70 : decode b_dg_settleVirtual 70 = .ok (.istore_n 2, 1) := by decide +kernel
theorem d_dg_settleVirtual_71 : decode b_dg_settleVirtual 71 = .ok (.aload_n 0, 1) := by decide +kernel
theorem d_dg_settleVirtual_72 : decode b_dg_settleVirtual 72 = .ok (.getfield 28, 3) := by decide +kernel
theorem d_dg_settleVirtual_75 : decode b_dg_settleVirtual 75 = .ok (.iload_n 1, 1) := by decide +kernel
theorem d_dg_settleVirtual_76 : decode b_dg_settleVirtual 76 = .ok (.iload_n 2, 1) := by decide +kernel
theorem d_dg_settleVirtual_77 : decode b_dg_settleVirtual 77 = .ok (.iastore, 1) := by decide +kernel
theorem d_dg_settleVirtual_78 : decode b_dg_settleVirtual 78 = .ok (.iinc 3 1, 3) := by decide +kernel
theorem d_dg_settleVirtual_81 : decode b_dg_settleVirtual 81 = .ok (.goto (-61), 3) := by decide +kernel
theorem d_dg_settleVirtual_84 : decode b_dg_settleVirtual 84 = .ok (.return_, 1) := by decide +kernel
theorem d_ja_fill_0 : decode b_ja_fill 0 = .ok (.iconst 0, 1) := by decide +kernel
theorem d_ja_fill_1 : decode b_ja_fill 1 = .ok (.istore_n 2, 1) := by decide +kernel
theorem d_ja_fill_2 : decode b_ja_fill 2 = .ok (.aload_n 0, 1) := by decide +kernel
theorem d_ja_fill_3 : decode b_ja_fill 3 = .ok (.arraylength, 1) := by decide +kernel
theorem d_ja_fill_4 : decode b_ja_fill 4 = .ok (.istore_n 3, 1) := by decide +kernel
theorem d_ja_fill_5 : decode b_ja_fill 5 = .ok (.iload_n 2, 1) := by decide +kernel
theorem d_ja_fill_6 : decode b_ja_fill 6 = .ok (.iload_n 3, 1) := by decide +kernel
theorem d_ja_fill_7 : decode b_ja_fill 7 = .ok (.if_icmp .ge 13, 3) := by decide +kernel
theorem d_ja_fill_10 : decode b_ja_fill 10 = .ok (.aload_n 0, 1) := by decide +kernel
theorem d_ja_fill_11 : decode b_ja_fill 11 = .ok (.iload_n 2, 1) := by decide +kernel
theorem d_ja_fill_12 : decode b_ja_fill 12 = .ok (.iload_n 1, 1) := by decide +kernel
theorem d_ja_fill_13 : decode b_ja_fill 13 = .ok (.iastore, 1) := by decide +kernel
theorem d_ja_fill_14 : decode b_ja_fill 14 = .ok (.iinc 2 1, 3) := by decide +kernel
theorem d_ja_fill_17 : decode b_ja_fill 17 = .ok (.goto (-12), 3) := by decide +kernel
theorem d_ja_fill_20 : decode b_ja_fill 20 = .ok (.return_, 1) := by decide +kernel
theorem d_bl_includedAt_0 : decode b_bl_includedAt 0 = .ok (.aload_n 0, 1) := by decide +kernel
theorem d_bl_includedAt_1 : decode b_bl_includedAt 1 = .ok (.getfield 21, 3) := by decide +kernel
theorem d_bl_includedAt_4 : decode b_bl_includedAt 4 = .ok (.iload_n 1, 1) := by decide +kernel
theorem d_bl_includedAt_5 : decode b_bl_includedAt 5 = .ok (.iconst 3, 1) := by decide +kernel
theorem d_bl_includedAt_6 : decode b_bl_includedAt 6 = .ok (.imul, 1) := by decide +kernel
theorem d_bl_includedAt_7 : decode b_bl_includedAt 7 = .ok (.iload_n 2, 1) := by decide +kernel
theorem d_bl_includedAt_8 : decode b_bl_includedAt 8 = .ok (.iadd, 1) := by decide +kernel
theorem d_bl_includedAt_9 : decode b_bl_includedAt 9 = .ok (.iaload, 1) := by decide +kernel
theorem d_bl_includedAt_10 : decode b_bl_includedAt 10 = .ok (.ireturn, 1) := by decide +kernel
theorem d_le_hasAccepted_0 : decode b_le_hasAccepted 0 = .ok (.aload_n 0, 1) := by decide +kernel
theorem d_le_hasAccepted_1 : decode b_le_hasAccepted 1 = .ok (.getfield 29, 3) := by decide +kernel
theorem d_le_hasAccepted_4 : decode b_le_hasAccepted 4 = .ok (.iload_n 1, 1) := by decide +kernel
theorem d_le_hasAccepted_5 : decode b_le_hasAccepted 5 = .ok (.invokestatic 73, 3) := by decide +kernel
theorem d_le_hasAccepted_8 : decode b_le_hasAccepted 8 = .ok (.ireturn, 1) := by decide +kernel
theorem d_le_lockOf_0 : decode b_le_lockOf 0 = .ok (.iload_n 1, 1) := by decide +kernel
theorem d_le_lockOf_1 : decode b_le_lockOf 1 = .ok (.bipush 80, 2) := by decide +kernel
theorem d_le_lockOf_3 : decode b_le_lockOf 3 = .ok (.if_icmp .ge 15, 3) := by decide +kernel
theorem d_le_lockOf_6 : decode b_le_lockOf 6 = .ok (.aload_n 0, 1) := by decide +kernel
theorem d_le_lockOf_7 : decode b_le_lockOf 7 = .ok (.getfield 15, 3) := by decide +kernel
theorem d_le_lockOf_10 : decode b_le_lockOf 10 = .ok (.getfield 113, 3) := by decide +kernel
theorem d_le_lockOf_13 : decode b_le_lockOf 13 = .ok (.iload_n 1, 1) := by decide +kernel
theorem d_le_lockOf_14 : decode b_le_lockOf 14 = .ok (.iaload, 1) := by decide +kernel
theorem d_le_lockOf_15 : decode b_le_lockOf 15 = .ok (.goto 15, 3) := by decide +kernel
theorem d_le_lockOf_18 : decode b_le_lockOf 18 = .ok (.aload_n 0, 1) := by decide +kernel
theorem d_le_lockOf_19 : decode b_le_lockOf 19 = .ok (.getfield 19, 3) := by decide +kernel
theorem d_le_lockOf_22 : decode b_le_lockOf 22 = .ok (.getfield 116, 3) := by decide +kernel
theorem d_le_lockOf_25 : decode b_le_lockOf 25 = .ok (.iload_n 1, 1) := by decide +kernel
theorem d_le_lockOf_26 : decode b_le_lockOf 26 = .ok (.bipush 80, 2) := by decide +kernel
theorem d_le_lockOf_28 : decode b_le_lockOf 28 = .ok (.isub, 1) := by decide +kernel
theorem d_le_lockOf_29 : decode b_le_lockOf 29 = .ok (.iaload, 1) := by decide +kernel
theorem d_le_lockOf_30 : decode b_le_lockOf 30 = .ok (.ireturn, 1) := by decide +kernel
theorem d_le_inputSum_0 : decode b_le_inputSum 0 = .ok (.iconst 0, 1) := by decide +kernel
theorem d_le_inputSum_1 : decode b_le_inputSum 1 = .ok (.istore_n 2, 1) := by decide +kernel
theorem d_le_inputSum_2 : decode b_le_inputSum 2 = .ok (.iconst (-1), 1) := by decide +kernel
theorem d_le_inputSum_3 : decode b_le_inputSum 3 = .ok (.istore_n 3, 1) := by decide +kernel
theorem d_le_inputSum_4 : decode b_le_inputSum 4 = .ok (.iconst 0, 1) := by decide +kernel
theorem d_le_inputSum_5 : decode b_le_inputSum 5 = .ok (.istore 4, 2) := by decide +kernel
theorem d_le_inputSum_7 : decode b_le_inputSum 7 = .ok (.iload 4, 2) := by decide +kernel
theorem d_le_inputSum_9 : decode b_le_inputSum 9 = .ok (.aload_n 0, 1) := by decide +kernel
theorem d_le_inputSum_10 : decode b_le_inputSum 10 = .ok (.getfield 15, 3) := by decide +kernel
theorem d_le_inputSum_13 : decode b_le_inputSum 13 = .ok (.getfield 91, 3) := by decide +kernel
theorem d_le_inputSum_16 : decode b_le_inputSum 16 = .ok (.iload_n 1, 1) := by decide +kernel
theorem d_le_inputSum_17 : decode b_le_inputSum 17 = .ok (.iaload, 1) := by decide +kernel
theorem d_le_inputSum_18 : decode b_le_inputSum 18 = .ok (.if_icmp .ge 80, 3) := by decide +kernel
theorem d_le_inputSum_21 : decode b_le_inputSum 21 = .ok (.iload_n 1, 1) := by decide +kernel
theorem d_le_inputSum_22 : decode b_le_inputSum 22 = .ok (.iconst 2, 1) := by decide +kernel
theorem d_le_inputSum_23 : decode b_le_inputSum 23 = .ok (.imul, 1) := by decide +kernel
theorem d_le_inputSum_24 : decode b_le_inputSum 24 = .ok (.iload 4, 2) := by decide +kernel
theorem d_le_inputSum_26 : decode b_le_inputSum 26 = .ok (.iadd, 1) := by decide +kernel
theorem d_le_inputSum_27 : decode b_le_inputSum 27 = .ok (.istore 5, 2) := by decide +kernel
theorem d_le_inputSum_29 : decode b_le_inputSum 29 = .ok (.aload_n 0, 1) := by decide +kernel
theorem d_le_inputSum_30 : decode b_le_inputSum 30 = .ok (.getfield 15, 3) := by decide +kernel
theorem d_le_inputSum_33 : decode b_le_inputSum 33 = .ok (.getfield 94, 3) := by decide +kernel
theorem d_le_inputSum_36 : decode b_le_inputSum 36 = .ok (.iload 5, 2) := by decide +kernel
theorem d_le_inputSum_38 : decode b_le_inputSum 38 = .ok (.iaload, 1) := by decide +kernel
theorem d_le_inputSum_39 : decode b_le_inputSum 39 = .ok (.istore 6, 2) := by decide +kernel
theorem d_le_inputSum_41 : decode b_le_inputSum 41 = .ok (.aload_n 0, 1) := by decide +kernel
theorem d_le_inputSum_42 : decode b_le_inputSum 42 = .ok (.getfield 9, 3) := by decide +kernel
theorem d_le_inputSum_45 : decode b_le_inputSum 45 = .ok (.iload 6, 2) := by decide +kernel
theorem d_le_inputSum_47 : decode b_le_inputSum 47 = .ok (.iaload, 1) := by decide +kernel
theorem d_le_inputSum_48 : decode b_le_inputSum 48 = .ok (.iconst (-1), 1) := by decide +kernel
theorem d_le_inputSum_49 : decode b_le_inputSum 49 = .ok (.if_icmp .eq 28, 3) := by decide +kernel
theorem d_le_inputSum_52 : decode b_le_inputSum 52 = .ok (.iload 6, 2) := by decide +kernel
theorem d_le_inputSum_54 : decode b_le_inputSum 54 = .ok (.iload_n 3, 1) := by decide +kernel
theorem d_le_inputSum_55 : decode b_le_inputSum 55 = .ok (.if_icmp .eq 22, 3) := by decide +kernel
theorem d_le_inputSum_58 : decode b_le_inputSum 58 = .ok (.aload_n 0, 1) := by decide +kernel
theorem d_le_inputSum_59 : decode b_le_inputSum 59 = .ok (.iload 6, 2) := by decide +kernel
theorem d_le_inputSum_61 : decode b_le_inputSum 61 = .ok (.invokevirtual 107, 3) := by decide +kernel
theorem d_le_inputSum_64 : decode b_le_inputSum 64 = .ok (.aload_n 0, 1) := by decide +kernel
theorem d_le_inputSum_65 : decode b_le_inputSum 65 = .ok (.getfield 15, 3) := by decide +kernel
theorem d_le_inputSum_68 : decode b_le_inputSum 68 = .ok (.getfield 110, 3) := by decide +kernel
theorem d_le_inputSum_71 : decode b_le_inputSum 71 = .ok (.iload 5, 2) := by decide +kernel
theorem d_le_inputSum_73 : decode b_le_inputSum 73 = .ok (.iaload, 1) := by decide +kernel
theorem d_le_inputSum_74 : decode b_le_inputSum 74 = .ok (.if_icmp .eq 5, 3) := by decide +kernel
theorem d_le_inputSum_77 : decode b_le_inputSum 77 = .ok (.iconst (-1), 1) := by decide +kernel
theorem d_le_inputSum_78 : decode b_le_inputSum 78 = .ok (.ireturn, 1) := by decide +kernel
theorem d_le_inputSum_79 : decode b_le_inputSum 79 = .ok (.iload_n 2, 1) := by decide +kernel
theorem d_le_inputSum_80 : decode b_le_inputSum 80 = .ok (.aload_n 0, 1) := by decide +kernel
theorem d_le_inputSum_81 : decode b_le_inputSum 81 = .ok (.getfield 9, 3) := by decide +kernel
theorem d_le_inputSum_84 : decode b_le_inputSum 84 = .ok (.iload 6, 2) := by decide +kernel
theorem d_le_inputSum_86 : decode b_le_inputSum 86 = .ok (.iaload, 1) := by decide +kernel
theorem d_le_inputSum_87 : decode b_le_inputSum 87 = .ok (.iadd, 1) := by decide +kernel
theorem d_le_inputSum_88 : decode b_le_inputSum 88 = .ok (.istore_n 2, 1) := by decide +kernel
theorem d_le_inputSum_89 : decode b_le_inputSum 89 = .ok (.iload 6, 2) := by decide +kernel
theorem d_le_inputSum_91 : decode b_le_inputSum 91 = .ok (.istore_n 3, 1) := by decide +kernel
theorem d_le_inputSum_92 : decode b_le_inputSum 92 = .ok (.iinc 4 1, 3) := by decide +kernel
theorem d_le_inputSum_95 : decode b_le_inputSum 95 = .ok (.goto (-88), 3) := by decide +kernel
theorem d_le_inputSum_98 : decode b_le_inputSum 98 = .ok (.iload_n 2, 1) := by decide +kernel
theorem d_le_inputSum_99 : decode b_le_inputSum 99 = .ok (.ireturn, 1) := by decide +kernel
theorem d_tr_outputSum_0 : decode b_tr_outputSum 0 = .ok (.iconst 0, 1) := by decide +kernel
theorem d_tr_outputSum_1 : decode b_tr_outputSum 1 = .ok (.istore_n 2, 1) := by decide +kernel
theorem d_tr_outputSum_2 : decode b_tr_outputSum 2 = .ok (.iload_n 1, 1) := by decide +kernel
theorem d_tr_outputSum_3 : decode b_tr_outputSum 3 = .ok (.iconst 2, 1) := by decide +kernel
theorem d_tr_outputSum_4 : decode b_tr_outputSum 4 = .ok (.imul, 1) := by decide +kernel
theorem d_tr_outputSum_5 : decode b_tr_outputSum 5 = .ok (.istore_n 3, 1) := by decide +kernel
theorem d_tr_outputSum_6 : decode b_tr_outputSum 6 = .ok (.iload_n 3, 1) := by decide +kernel
theorem d_tr_outputSum_7 : decode b_tr_outputSum 7 = .ok (.istore 4, 2) := by decide +kernel
theorem d_tr_outputSum_9 : decode b_tr_outputSum 9 = .ok (.iload 4, 2) := by decide +kernel
theorem d_tr_outputSum_11 : decode b_tr_outputSum 11 = .ok (.iload_n 3, 1) := by decide +kernel
theorem d_tr_outputSum_12 : decode b_tr_outputSum 12 = .ok (.aload_n 0, 1) := by decide +kernel
theorem d_tr_outputSum_13 : decode b_tr_outputSum 13 = .ok (.getfield 33, 3) := by decide +kernel
theorem d_tr_outputSum_16 : decode b_tr_outputSum 16 = .ok (.iload_n 1, 1) := by decide +kernel
theorem d_tr_outputSum_17 : decode b_tr_outputSum 17 = .ok (.iaload, 1) := by decide +kernel
theorem d_tr_outputSum_18 : decode b_tr_outputSum 18 = .ok (.iadd, 1) := by decide +kernel
theorem d_tr_outputSum_19 : decode b_tr_outputSum 19 = .ok (.if_icmp .ge 19, 3) := by decide +kernel
theorem d_tr_outputSum_22 : decode b_tr_outputSum 22 = .ok (.iload_n 2, 1) := by decide +kernel
theorem d_tr_outputSum_23 : decode b_tr_outputSum 23 = .ok (.aload_n 0, 1) := by decide +kernel
theorem d_tr_outputSum_24 : decode b_tr_outputSum 24 = .ok (.getfield 39, 3) := by decide +kernel
theorem d_tr_outputSum_27 : decode b_tr_outputSum 27 = .ok (.iload 4, 2) := by decide +kernel
theorem d_tr_outputSum_29 : decode b_tr_outputSum 29 = .ok (.iaload, 1) := by decide +kernel
theorem d_tr_outputSum_30 : decode b_tr_outputSum 30 = .ok (.iadd, 1) := by decide +kernel
theorem d_tr_outputSum_31 : decode b_tr_outputSum 31 = .ok (.istore_n 2, 1) := by decide +kernel
theorem d_tr_outputSum_32 : decode b_tr_outputSum 32 = .ok (.iinc 4 1, 3) := by decide +kernel
theorem d_tr_outputSum_35 : decode b_tr_outputSum 35 = .ok (.goto (-26), 3) := by decide +kernel
theorem d_tr_outputSum_38 : decode b_tr_outputSum 38 = .ok (.iload_n 2, 1) := by decide +kernel
theorem d_tr_outputSum_39 : decode b_tr_outputSum 39 = .ok (.ireturn, 1) := by decide +kernel
theorem d_le_feeOf_0 : decode b_le_feeOf 0 = .ok (.aload_n 0, 1) := by decide +kernel
theorem d_le_feeOf_1 : decode b_le_feeOf 1 = .ok (.iload_n 1, 1) := by decide +kernel
theorem d_le_feeOf_2 : decode b_le_feeOf 2 = .ok (.invokevirtual 77, 3) := by decide +kernel
theorem d_le_feeOf_5 : decode b_le_feeOf 5 = .ok (.ifCond .eq 7, 3) := by decide +kernel
theorem d_le_feeOf_8 : decode b_le_feeOf 8 = .ok (.iconst (-1), 1) := by decide +kernel
theorem d_le_feeOf_9 : decode b_le_feeOf 9 = .ok (.goto 8, 3) := by decide +kernel
theorem d_le_feeOf_12 : decode b_le_feeOf 12 = .ok (.aload_n 0, 1) := by decide +kernel
theorem d_le_feeOf_13 : decode b_le_feeOf 13 = .ok (.iload_n 1, 1) := by decide +kernel
theorem d_le_feeOf_14 : decode b_le_feeOf 14 = .ok (.invokevirtual 80, 3) := by decide +kernel
theorem d_le_feeOf_17 : decode b_le_feeOf 17 = .ok (.istore_n 2, 1) := by decide +kernel
theorem d_le_feeOf_18 : decode b_le_feeOf 18 = .ok (.aload_n 0, 1) := by decide +kernel
theorem d_le_feeOf_19 : decode b_le_feeOf 19 = .ok (.getfield 15, 3) := by decide +kernel
theorem d_le_feeOf_22 : decode b_le_feeOf 22 = .ok (.iload_n 1, 1) := by decide +kernel
theorem d_le_feeOf_23 : decode b_le_feeOf 23 = .ok (.invokevirtual 83, 3) := by decide +kernel
theorem d_le_feeOf_26 : decode b_le_feeOf 26 = .ok (.istore_n 3, 1) := by decide +kernel
theorem d_le_feeOf_27 : decode b_le_feeOf 27 = .ok (.iload_n 2, 1) := by decide +kernel
theorem d_le_feeOf_28 : decode b_le_feeOf 28 = .ok (.iload_n 3, 1) := by decide +kernel
theorem d_le_feeOf_29 : decode b_le_feeOf 29 = .ok (.if_icmp .ge 7, 3) := by decide +kernel
theorem d_le_feeOf_32 : decode b_le_feeOf 32 = .ok (.iconst (-1), 1) := by decide +kernel
theorem d_le_feeOf_33 : decode b_le_feeOf 33 = .ok (.goto 6, 3) := by decide +kernel
theorem d_le_feeOf_36 : decode b_le_feeOf 36 = .ok (.iload_n 2, 1) := by decide +kernel
theorem d_le_feeOf_37 : decode b_le_feeOf 37 = .ok (.iload_n 3, 1) := by decide +kernel
theorem d_le_feeOf_38 : decode b_le_feeOf 38 = .ok (.isub, 1) := by decide +kernel
theorem d_le_feeOf_39 : decode b_le_feeOf 39 = .ok (.ireturn, 1) := by decide +kernel
theorem d_le_accept_0 : decode b_le_accept 0 = .ok (.aload_n 0, 1) := by decide +kernel
theorem d_le_accept_1 : decode b_le_accept 1 = .ok (.iload_n 1, 1) := by decide +kernel
theorem d_le_accept_2 : decode b_le_accept 2 = .ok (.invokevirtual 88, 3) := by decide +kernel
theorem d_le_accept_5 : decode b_le_accept 5 = .ok (.istore_n 2, 1) := by decide +kernel
theorem d_le_accept_6 : decode b_le_accept 6 = .ok (.iload_n 2, 1) := by decide +kernel
theorem d_le_accept_7 : decode b_le_accept 7 = .ok (.iconst (-1), 1) := by decide +kernel
theorem d_le_accept_8 : decode b_le_accept 8 = .ok (.if_icmp .ne 5, 3) := by decide +kernel
theorem d_le_accept_11 : decode b_le_accept 11 = .ok (.iconst (-1), 1) := by decide +kernel
theorem d_le_accept_12 : decode b_le_accept 12 = .ok (.ireturn, 1) := by decide +kernel
theorem d_le_accept_13 : decode b_le_accept 13 = .ok (.iconst 0, 1) := by decide +kernel
theorem d_le_accept_14 : decode b_le_accept 14 = .ok (.istore_n 3, 1) := by decide +kernel
theorem d_le_accept_15 : decode b_le_accept 15 = .ok (.iload_n 3, 1) := by decide +kernel
theorem d_le_accept_16 : decode b_le_accept 16 = .ok (.aload_n 0, 1) := by decide +kernel
theorem d_le_accept_17 : decode b_le_accept 17 = .ok (.getfield 15, 3) := by decide +kernel
theorem d_le_accept_20 : decode b_le_accept 20 = .ok (.getfield 91, 3) := by decide +kernel
theorem d_le_accept_23 : decode b_le_accept 23 = .ok (.iload_n 1, 1) := by decide +kernel
theorem d_le_accept_24 : decode b_le_accept 24 = .ok (.iaload, 1) := by decide +kernel
theorem d_le_accept_25 : decode b_le_accept 25 = .ok (.if_icmp .ge 28, 3) := by decide +kernel
theorem d_le_accept_28 : decode b_le_accept 28 = .ok (.aload_n 0, 1) := by decide +kernel
theorem d_le_accept_29 : decode b_le_accept 29 = .ok (.getfield 9, 3) := by decide +kernel
theorem d_le_accept_32 : decode b_le_accept 32 = .ok (.aload_n 0, 1) := by decide +kernel
theorem d_le_accept_33 : decode b_le_accept 33 = .ok (.getfield 15, 3) := by decide +kernel
theorem d_le_accept_36 : decode b_le_accept 36 = .ok (.getfield 94, 3) := by decide +kernel
theorem d_le_accept_39 : decode b_le_accept 39 = .ok (.iload_n 1, 1) := by decide +kernel
theorem d_le_accept_40 : decode b_le_accept 40 = .ok (.iconst 2, 1) := by decide +kernel
theorem d_le_accept_41 : decode b_le_accept 41 = .ok (.imul, 1) := by decide +kernel
theorem d_le_accept_42 : decode b_le_accept 42 = .ok (.iload_n 3, 1) := by decide +kernel
theorem d_le_accept_43 : decode b_le_accept 43 = .ok (.iadd, 1) := by decide +kernel
theorem d_le_accept_44 : decode b_le_accept 44 = .ok (.iaload, 1) := by decide +kernel
theorem d_le_accept_45 : decode b_le_accept 45 = .ok (.iconst (-1), 1) := by decide +kernel
theorem d_le_accept_46 : decode b_le_accept 46 = .ok (.iastore, 1) := by decide +kernel
theorem d_le_accept_47 : decode b_le_accept 47 = .ok (.iinc 3 1, 3) := by decide +kernel
theorem d_le_accept_50 : decode b_le_accept 50 = .ok (.goto (-35), 3) := by decide +kernel
theorem d_le_accept_53 : decode b_le_accept 53 = .ok (.iconst 0, 1) := by decide +kernel
theorem d_le_accept_54 : decode b_le_accept 54 = .ok (.istore_n 3, 1) := by decide +kernel
theorem d_le_accept_55 : decode b_le_accept 55 = .ok (.iload_n 3, 1) := by decide +kernel
theorem d_le_accept_56 : decode b_le_accept 56 = .ok (.aload_n 0, 1) := by decide +kernel
theorem d_le_accept_57 : decode b_le_accept 57 = .ok (.getfield 15, 3) := by decide +kernel
theorem d_le_accept_60 : decode b_le_accept 60 = .ok (.getfield 97, 3) := by decide +kernel
theorem d_le_accept_63 : decode b_le_accept 63 = .ok (.iload_n 1, 1) := by decide +kernel
theorem d_le_accept_64 : decode b_le_accept 64 = .ok (.iaload, 1) := by decide +kernel
theorem d_le_accept_65 : decode b_le_accept 65 = .ok (.if_icmp .ge 33, 3) := by decide +kernel
theorem d_le_accept_68 : decode b_le_accept 68 = .ok (.iload_n 1, 1) := by decide +kernel
theorem d_le_accept_69 : decode b_le_accept 69 = .ok (.iconst 2, 1) := by decide +kernel
theorem d_le_accept_70 : decode b_le_accept 70 = .ok (.imul, 1) := by decide +kernel
theorem d_le_accept_71 : decode b_le_accept 71 = .ok (.iload_n 3, 1) := by decide +kernel
theorem d_le_accept_72 : decode b_le_accept 72 = .ok (.iadd, 1) := by decide +kernel
theorem d_le_accept_73 : decode b_le_accept 73 = .ok (.istore 4, 2) := by decide +kernel
theorem d_le_accept_75 : decode b_le_accept 75 = .ok (.aload_n 0, 1) := by decide +kernel
theorem d_le_accept_76 : decode b_le_accept 76 = .ok (.getfield 9, 3) := by decide +kernel
theorem d_le_accept_79 : decode b_le_accept 79 = .ok (.iload 4, 2) := by decide +kernel
theorem d_le_accept_81 : decode b_le_accept 81 = .ok (.aload_n 0, 1) := by decide +kernel
theorem d_le_accept_82 : decode b_le_accept 82 = .ok (.getfield 15, 3) := by decide +kernel
theorem d_le_accept_85 : decode b_le_accept 85 = .ok (.getfield 100, 3) := by decide +kernel
theorem d_le_accept_88 : decode b_le_accept 88 = .ok (.iload 4, 2) := by decide +kernel
theorem d_le_accept_90 : decode b_le_accept 90 = .ok (.iaload, 1) := by decide +kernel
theorem d_le_accept_91 : decode b_le_accept 91 = .ok (.iastore, 1) := by decide +kernel
theorem d_le_accept_92 : decode b_le_accept 92 = .ok (.iinc 3 1, 3) := by decide +kernel
theorem d_le_accept_95 : decode b_le_accept 95 = .ok (.goto (-40), 3) := by decide +kernel
theorem d_le_accept_98 : decode b_le_accept 98 = .ok (.aload_n 0, 1) := by decide +kernel
theorem d_le_accept_99 : decode b_le_accept 99 = .ok (.dup, 1) := by decide +kernel
theorem d_le_accept_100 : decode b_le_accept 100 = .ok (.getfield 29, 3) := by decide +kernel
theorem d_le_accept_103 : decode b_le_accept 103 = .ok (.iload_n 1, 1) := by decide +kernel
theorem d_le_accept_104 : decode b_le_accept 104 = .ok (.invokestatic 103, 3) := by decide +kernel
theorem d_le_accept_107 : decode b_le_accept 107 = .ok (.lor, 1) := by decide +kernel
theorem d_le_accept_108 : decode b_le_accept 108 = .ok (.putfield 29, 3) := by decide +kernel
theorem d_le_accept_111 : decode b_le_accept 111 = .ok (.iload_n 2, 1) := by decide +kernel
theorem d_le_accept_112 : decode b_le_accept 112 = .ok (.ireturn, 1) := by decide +kernel
theorem d_dg_isBlue_0 : decode b_dg_isBlue 0 = .ok (.aload_n 0, 1) := by decide +kernel
theorem d_dg_isBlue_1 : decode b_dg_isBlue 1 = .ok (.getfield 18, 3) := by decide +kernel
theorem d_dg_isBlue_4 : decode b_dg_isBlue 4 = .ok (.bipush 60, 2) := by decide +kernel
theorem d_dg_isBlue_6 : decode b_dg_isBlue 6 = .ok (.laload, 1) := by decide +kernel
theorem d_dg_isBlue_7 : decode b_dg_isBlue 7 = .ok (.iload_n 1, 1) := by decide +kernel
theorem d_dg_isBlue_8 : decode b_dg_isBlue 8 = .ok (.invokestatic 52, 3) := by decide +kernel
theorem d_dg_isBlue_11 : decode b_dg_isBlue 11 = .ok (.ireturn, 1) := by decide +kernel
theorem d_le_replay_0 : decode b_le_replay 0 = .ok (.aload_n 0, 1) := by decide +kernel
theorem d_le_replay_1 : decode b_le_replay 1 = .ok (.getfield 9, 3) := by decide +kernel
theorem d_le_replay_4 : decode b_le_replay 4 = .ok (.iconst (-1), 1) := by decide +kernel
theorem d_le_replay_5 : decode b_le_replay 5 = .ok (.invokestatic 33, 3) := by decide +kernel
theorem d_le_replay_8 : decode b_le_replay 8 = .ok (.aload_n 0, 1) := by decide +kernel
theorem d_le_replay_9 : decode b_le_replay 9 = .ok (.lconst 0, 1) := by decide +kernel
theorem d_le_replay_10 : decode b_le_replay 10 = .ok (.putfield 29, 3) := by decide +kernel
theorem d_le_replay_13 : decode b_le_replay 13 = .ok (.iconst 0, 1) := by decide +kernel
theorem d_le_replay_14 : decode b_le_replay 14 = .ok (.istore_n 2, 1) := by decide +kernel
theorem d_le_replay_15 : decode b_le_replay 15 = .ok (.iload_n 2, 1) := by decide +kernel
theorem d_le_replay_16 : decode b_le_replay 16 = .ok (.aload_n 1, 1) := by decide +kernel
theorem d_le_replay_17 : decode b_le_replay 17 = .ok (.invokevirtual 39, 3) := by decide +kernel
theorem d_le_replay_20 : decode b_le_replay 20 = .ok (.if_icmp .ge 97, 3) := by decide +kernel
theorem d_le_replay_23 : decode b_le_replay 23 = .ok (.aload_n 1, 1) := by decide +kernel
theorem d_le_replay_24 : decode b_le_replay 24 = .ok (.getfield 45, 3) := by decide +kernel
theorem d_le_replay_27 : decode b_le_replay 27 = .ok (.iload_n 2, 1) := by decide +kernel
theorem d_le_replay_28 : decode b_le_replay 28 = .ok (.iaload, 1) := by decide +kernel
theorem d_le_replay_29 : decode b_le_replay 29 = .ok (.istore_n 3, 1) := by decide +kernel
theorem d_le_replay_30 : decode b_le_replay 30 = .ok (.iconst 0, 1) := by decide +kernel
theorem d_le_replay_31 : decode b_le_replay 31 = .ok (.istore 4, 2) := by decide +kernel
theorem d_le_replay_33 : decode b_le_replay 33 = .ok (.iconst 0, 1) := by decide +kernel
theorem d_le_replay_34 : decode b_le_replay 34 = .ok (.istore 5, 2) := by decide +kernel
theorem d_le_replay_36 : decode b_le_replay 36 = .ok (.iload 5, 2) := by decide +kernel
theorem d_le_replay_38 : decode b_le_replay 38 = .ok (.aload_n 0, 1) := by decide +kernel
theorem d_le_replay_39 : decode b_le_replay 39 = .ok (.getfield 19, 3) := by decide +kernel
theorem d_le_replay_42 : decode b_le_replay 42 = .ok (.getfield 48, 3) := by decide +kernel
theorem d_le_replay_45 : decode b_le_replay 45 = .ok (.iload_n 3, 1) := by decide +kernel
theorem d_le_replay_46 : decode b_le_replay 46 = .ok (.iaload, 1) := by decide +kernel
theorem d_le_replay_47 : decode b_le_replay 47 = .ok (.if_icmp .ge 32, 3) := by decide +kernel
theorem d_le_replay_50 : decode b_le_replay 50 = .ok (.iload 4, 2) := by decide +kernel
theorem d_le_replay_52 : decode b_le_replay 52 = .ok (.aload_n 0, 1) := by decide +kernel
theorem d_le_replay_53 : decode b_le_replay 53 = .ok (.aload_n 0, 1) := by decide +kernel
theorem d_le_replay_54 : decode b_le_replay 54 = .ok (.getfield 19, 3) := by decide +kernel
theorem d_le_replay_57 : decode b_le_replay 57 = .ok (.iload_n 3, 1) := by decide +kernel
theorem d_le_replay_58 : decode b_le_replay 58 = .ok (.iload 5, 2) := by decide +kernel
theorem d_le_replay_60 : decode b_le_replay 60 = .ok (.invokevirtual 53, 3) := by decide +kernel
theorem d_le_replay_63 : decode b_le_replay 63 = .ok (.invokevirtual 57, 3) := by decide +kernel
theorem d_le_replay_66 : decode b_le_replay 66 = .ok (.iconst 0, 1) := by decide +kernel
theorem d_le_replay_67 : decode b_le_replay 67 = .ok (.invokestatic 61, 3) := by decide +kernel
theorem d_le_replay_70 : decode b_le_replay 70 = .ok (.iadd, 1) := by decide +kernel
theorem d_le_replay_71 : decode b_le_replay 71 = .ok (.istore 4, 2) := by decide +kernel
theorem d_le_replay_73 : decode b_le_replay 73 = .ok (.iinc 5 1, 3) := by decide +kernel
theorem d_le_replay_76 : decode b_le_replay 76 = .ok (.goto (-40), 3) := by decide +kernel
theorem d_le_replay_79 : decode b_le_replay 79 = .ok (.aload_n 1, 1) := by decide +kernel
theorem d_le_replay_80 : decode b_le_replay 80 = .ok (.iload_n 3, 1) := by decide +kernel
theorem d_le_replay_81 : decode b_le_replay 81 = .ok (.invokevirtual 66, 3) := by decide +kernel
theorem d_le_replay_84 : decode b_le_replay 84 = .ok (.ifCond .eq 27, 3) := by decide +kernel
theorem d_le_replay_87 : decode b_le_replay 87 = .ok (.aload_n 0, 1) := by decide +kernel
theorem d_le_replay_88 : decode b_le_replay 88 = .ok (.getfield 9, 3) := by decide +kernel
theorem d_le_replay_91 : decode b_le_replay 91 = .ok (.bipush 80, 2) := by decide +kernel
theorem d_le_replay_93 : decode b_le_replay 93 = .ok (.iload_n 3, 1) := by decide +kernel
theorem d_le_replay_94 : decode b_le_replay 94 = .ok (.iadd, 1) := by decide +kernel
theorem d_le_replay_95 : decode b_le_replay 95 = .ok (.bipush 64, 2) := by decide +kernel
theorem d_le_replay_97 : decode b_le_replay 97 = .ok (.aload_n 1, 1) := by decide +kernel
theorem d_le_replay_98 : decode b_le_replay 98 = .ok (.getfield 70, 3) := by decide +kernel
theorem d_le_replay_101 : decode b_le_replay 101 = .ok (.iload_n 3, 1) := by decide +kernel
theorem d_le_replay_102 : decode b_le_replay 102 = .ok (.iaload, 1) := by decide +kernel
theorem d_le_replay_103 : decode b_le_replay 103 = .ok (.bipush 8, 2) := by decide +kernel
theorem d_le_replay_105 : decode b_le_replay 105 = .ok (.idiv, 1) := by decide +kernel
theorem d_le_replay_106 : decode b_le_replay 106 = .ok (.ishr, 1) := by decide +kernel
theorem d_le_replay_107 : decode b_le_replay 107 = .ok (.iload 4, 2) := by decide +kernel
theorem d_le_replay_109 : decode b_le_replay 109 = .ok (.iadd, 1) := by decide +kernel
theorem d_le_replay_110 : decode b_le_replay 110 = .ok (.iastore, 1) := by decide +kernel
theorem d_le_replay_111 : decode b_le_replay 111 = .ok (.iinc 2 1, 3) := by decide +kernel
theorem d_le_replay_114 : decode b_le_replay 114 = .ok (.goto (-99), 3) := by decide +kernel
theorem d_le_replay_117 : decode b_le_replay 117 = .ok (.return_, 1) := by decide +kernel
theorem d_le_copyFrom_0 : decode b_le_copyFrom 0 = .ok (.aload_n 1, 1) := by decide +kernel
theorem d_le_copyFrom_1 : decode b_le_copyFrom 1 = .ok (.getfield 9, 3) := by decide +kernel
theorem d_le_copyFrom_4 : decode b_le_copyFrom 4 = .ok (.iconst 0, 1) := by decide +kernel
theorem d_le_copyFrom_5 : decode b_le_copyFrom 5 = .ok (.aload_n 0, 1) := by decide +kernel
theorem d_le_copyFrom_6 : decode b_le_copyFrom 6 = .ok (.getfield 9, 3) := by decide +kernel
theorem d_le_copyFrom_9 : decode b_le_copyFrom 9 = .ok (.iconst 0, 1) := by decide +kernel
theorem d_le_copyFrom_10 : decode b_le_copyFrom 10 = .ok (.sipush 140, 3) := by decide +kernel
theorem d_le_copyFrom_13 : decode b_le_copyFrom 13 = .ok (.invokestatic 23, 3) := by decide +kernel
theorem d_le_copyFrom_16 : decode b_le_copyFrom 16 = .ok (.aload_n 0, 1) := by decide +kernel
theorem d_le_copyFrom_17 : decode b_le_copyFrom 17 = .ok (.aload_n 1, 1) := by decide +kernel
theorem d_le_copyFrom_18 : decode b_le_copyFrom 18 = .ok (.getfield 29, 3) := by decide +kernel
theorem d_le_copyFrom_21 : decode b_le_copyFrom 21 = .ok (.putfield 29, 3) := by decide +kernel
theorem d_le_copyFrom_24 : decode b_le_copyFrom 24 = .ok (.return_, 1) := by decide +kernel
theorem d_nu_at_0 : decode b_nu_at 0 = .ok (.iload_n 1, 1) := by decide +kernel
theorem d_nu_at_1 : decode b_nu_at 1 = .ok (.ifCond .lt 20, 3) := by decide +kernel
theorem d_nu_at_4 : decode b_nu_at 4 = .ok (.iload_n 1, 1) := by decide +kernel
theorem d_nu_at_5 : decode b_nu_at 5 = .ok (.aload_n 0, 1) := by decide +kernel
theorem d_nu_at_6 : decode b_nu_at 6 = .ok (.getfield 15, 3) := by decide +kernel
theorem d_nu_at_9 : decode b_nu_at 9 = .ok (.if_icmp .ge 12, 3) := by decide +kernel
theorem d_nu_at_12 : decode b_nu_at 12 = .ok (.aload_n 0, 1) := by decide +kernel
theorem d_nu_at_13 : decode b_nu_at 13 = .ok (.getfield 9, 3) := by decide +kernel
theorem d_nu_at_16 : decode b_nu_at 16 = .ok (.iload_n 1, 1) := by decide +kernel
theorem d_nu_at_17 : decode b_nu_at 17 = .ok (.iaload, 1) := by decide +kernel
theorem d_nu_at_18 : decode b_nu_at 18 = .ok (.goto 4, 3) := by decide +kernel
theorem d_nu_at_21 : decode b_nu_at 21 = .ok (.iconst (-1), 1) := by decide +kernel
theorem d_nu_at_22 : decode b_nu_at 22 = .ok (.ireturn, 1) := by decide +kernel
theorem d_nu_removeAt_0 : decode b_nu_removeAt 0 = .ok (.iload_n 1, 1) := by decide +kernel
theorem d_nu_removeAt_1 : decode b_nu_removeAt 1 = .ok (.ifCond .lt 11, 3) := by decide +kernel
theorem d_nu_removeAt_4 : decode b_nu_removeAt 4 = .ok (.iload_n 1, 1) := by decide +kernel
theorem d_nu_removeAt_5 : decode b_nu_removeAt 5 = .ok (.aload_n 0, 1) := by decide +kernel
theorem d_nu_removeAt_6 : decode b_nu_removeAt 6 = .ok (.getfield 15, 3) := by decide +kernel
theorem d_nu_removeAt_9 : decode b_nu_removeAt 9 = .ok (.if_icmp .lt 4, 3) := by decide +kernel
theorem d_nu_removeAt_12 : decode b_nu_removeAt 12 = .ok (.return_, 1) := by decide +kernel
theorem d_nu_removeAt_13 : decode b_nu_removeAt 13 = .ok (.aload_n 0, 1) := by decide +kernel
theorem d_nu_removeAt_14 : decode b_nu_removeAt 14 = .ok (.dup, 1) := by decide +kernel
theorem d_nu_removeAt_15 : decode b_nu_removeAt 15 = .ok (.getfield 15, 3) := by decide +kernel
theorem d_nu_removeAt_18 : decode b_nu_removeAt 18 = .ok (.iconst 1, 1) := by decide +kernel
theorem d_nu_removeAt_19 : decode b_nu_removeAt 19 = .ok (.isub, 1) := by decide +kernel
theorem d_nu_removeAt_20 : decode b_nu_removeAt 20 = .ok (.putfield 15, 3) := by decide +kernel
theorem d_nu_removeAt_23 : decode b_nu_removeAt 23 = .ok (.iload_n 1, 1) := by decide +kernel
theorem d_nu_removeAt_24 : decode b_nu_removeAt 24 = .ok (.istore_n 2, 1) := by decide +kernel
theorem d_nu_removeAt_25 : decode b_nu_removeAt 25 = .ok (.iload_n 2, 1) := by decide +kernel
theorem d_nu_removeAt_26 : decode b_nu_removeAt 26 = .ok (.aload_n 0, 1) := by decide +kernel
theorem d_nu_removeAt_27 : decode b_nu_removeAt 27 = .ok (.getfield 15, 3) := by decide +kernel
theorem d_nu_removeAt_30 : decode b_nu_removeAt 30 = .ok (.if_icmp .ge 23, 3) := by decide +kernel
theorem d_nu_removeAt_33 : decode b_nu_removeAt 33 = .ok (.aload_n 0, 1) := by decide +kernel
theorem d_nu_removeAt_34 : decode b_nu_removeAt 34 = .ok (.getfield 9, 3) := by decide +kernel
theorem d_nu_removeAt_37 : decode b_nu_removeAt 37 = .ok (.iload_n 2, 1) := by decide +kernel
theorem d_nu_removeAt_38 : decode b_nu_removeAt 38 = .ok (.aload_n 0, 1) := by decide +kernel
theorem d_nu_removeAt_39 : decode b_nu_removeAt 39 = .ok (.getfield 9, 3) := by decide +kernel
theorem d_nu_removeAt_42 : decode b_nu_removeAt 42 = .ok (.iload_n 2, 1) := by decide +kernel
theorem d_nu_removeAt_43 : decode b_nu_removeAt 43 = .ok (.iconst 1, 1) := by decide +kernel
theorem d_nu_removeAt_44 : decode b_nu_removeAt 44 = .ok (.iadd, 1) := by decide +kernel
theorem d_nu_removeAt_45 : decode b_nu_removeAt 45 = .ok (.iaload, 1) := by decide +kernel
theorem d_nu_removeAt_46 : decode b_nu_removeAt 46 = .ok (.iastore, 1) := by decide +kernel
theorem d_nu_removeAt_47 : decode b_nu_removeAt 47 = .ok (.iinc 2 1, 3) := by decide +kernel
theorem d_nu_removeAt_50 : decode b_nu_removeAt 50 = .ok (.goto (-25), 3) := by decide +kernel
theorem d_nu_removeAt_53 : decode b_nu_removeAt 53 = .ok (.return_, 1) := by decide +kernel
theorem d_bm_followDag_0 : decode b_bm_followDag 0 = .ok (.aload_n 0, 1) := by decide +kernel
theorem d_bm_followDag_1 : decode b_bm_followDag 1 = .ok (.getfield 38, 3) := by decide +kernel
theorem d_bm_followDag_4 : decode b_bm_followDag 4 = .ok (.invokevirtual 251, 3) := by decide +kernel
theorem d_bm_followDag_7 : decode b_bm_followDag 7 = .ok (.aload_n 0, 1) := by decide +kernel
theorem d_bm_followDag_8 : decode b_bm_followDag 8 = .ok (.getfield 56, 3) := by decide +kernel
theorem d_bm_followDag_11 : decode b_bm_followDag 11 = .ok (.aload_n 0, 1) := by decide +kernel
theorem d_bm_followDag_12 : decode b_bm_followDag 12 = .ok (.getfield 38, 3) := by decide +kernel
theorem d_bm_followDag_15 : decode b_bm_followDag 15 = .ok (.invokevirtual 254, 3) := by decide +kernel
theorem d_bm_followDag_18 : decode b_bm_followDag 18 = .ok (.aload_n 0, 1) := by decide +kernel
theorem d_bm_followDag_19 : decode b_bm_followDag 19 = .ok (.getfield 63, 3) := by decide +kernel
theorem d_bm_followDag_22 : decode b_bm_followDag 22 = .ok (.aload_n 0, 1) := by decide +kernel
theorem d_bm_followDag_23 : decode b_bm_followDag 23 = .ok (.getfield 56, 3) := by decide +kernel
theorem d_bm_followDag_26 : decode b_bm_followDag 26 = .ok (.invokevirtual 258, 3) := by decide +kernel
theorem d_bm_followDag_29 : decode b_bm_followDag 29 = .ok (.aload_n 0, 1) := by decide +kernel
theorem d_bm_followDag_30 : decode b_bm_followDag 30 = .ok (.getfield 60, 3) := by decide +kernel
theorem d_bm_followDag_33 : decode b_bm_followDag 33 = .ok (.getfield 112, 3) := by decide +kernel
theorem d_bm_followDag_36 : decode b_bm_followDag 36 = .ok (.istore_n 1, 1) := by decide +kernel
theorem d_bm_followDag_37 : decode b_bm_followDag 37 = .ok (.iconst 0, 1) := by decide +kernel
theorem d_bm_followDag_38 : decode b_bm_followDag 38 = .ok (.istore_n 2, 1) := by decide +kernel
theorem d_bm_followDag_39 : decode b_bm_followDag 39 = .ok (.iconst 0, 1) := by decide +kernel
theorem d_bm_followDag_40 : decode b_bm_followDag 40 = .ok (.istore_n 3, 1) := by decide +kernel
theorem d_bm_followDag_41 : decode b_bm_followDag 41 = .ok (.iload_n 3, 1) := by decide +kernel
theorem d_bm_followDag_42 : decode b_bm_followDag 42 = .ok (.iload_n 1, 1) := by decide +kernel
theorem d_bm_followDag_43 : decode b_bm_followDag 43 = .ok (.if_icmp .ge 42, 3) := by decide +kernel
theorem d_bm_followDag_46 : decode b_bm_followDag 46 = .ok (.aload_n 0, 1) := by decide +kernel
theorem d_bm_followDag_47 : decode b_bm_followDag 47 = .ok (.getfield 63, 3) := by decide +kernel
theorem d_bm_followDag_50 : decode b_bm_followDag 50 = .ok (.aload_n 0, 1) := by decide +kernel
theorem d_bm_followDag_51 : decode b_bm_followDag 51 = .ok (.getfield 60, 3) := by decide +kernel
theorem d_bm_followDag_54 : decode b_bm_followDag 54 = .ok (.iload_n 2, 1) := by decide +kernel
theorem d_bm_followDag_55 : decode b_bm_followDag 55 = .ok (.invokevirtual 144, 3) := by decide +kernel
theorem d_bm_followDag_58 : decode b_bm_followDag 58 = .ok (.invokevirtual 170, 3) := by decide +kernel
theorem d_bm_followDag_61 : decode b_bm_followDag 61 = .ok (.iconst (-1), 1) := by decide +kernel
theorem d_bm_followDag_62 : decode b_bm_followDag 62 = .ok (.if_icmp .ne 14, 3) := by decide +kernel
theorem d_bm_followDag_65 : decode b_bm_followDag 65 = .ok (.aload_n 0, 1) := by decide +kernel
theorem d_bm_followDag_66 : decode b_bm_followDag 66 = .ok (.getfield 60, 3) := by decide +kernel
theorem d_bm_followDag_69 : decode b_bm_followDag 69 = .ok (.iload_n 2, 1) := by decide +kernel
theorem d_bm_followDag_70 : decode b_bm_followDag 70 = .ok (.invokevirtual 239, 3) := by decide +kernel
theorem d_bm_followDag_73 : decode b_bm_followDag 73 = .ok (.goto 6, 3) := by decide +kernel
theorem d_bm_followDag_76 : decode b_bm_followDag 76 = .ok (.iinc 2 1, 3) := by decide +kernel
theorem d_bm_followDag_79 : decode b_bm_followDag 79 = .ok (.iinc 3 1, 3) := by decide +kernel
theorem d_bm_followDag_82 : decode b_bm_followDag 82 = .ok (.goto (-41), 3) := by decide +kernel
theorem d_bm_followDag_85 : decode b_bm_followDag 85 = .ok (.return_, 1) := by decide +kernel
theorem d_bm_init_0 : decode b_bm_init 0 = .ok (.aload_n 0, 1) := by decide +kernel
theorem d_bm_init_1 : decode b_bm_init 1 = .ok (.invokespecial 3, 3) := by decide +kernel
theorem d_bm_init_4 : decode b_bm_init 4 = .ok (.aload_n 0, 1) := by decide +kernel
theorem d_bm_init_5 : decode b_bm_init 5 = .ok (.new 9, 3) := by decide +kernel
theorem d_bm_init_8 : decode b_bm_init 8 = .ok (.dup, 1) := by decide +kernel
theorem d_bm_init_9 : decode b_bm_init 9 = .ok (.invokespecial 11, 3) := by decide +kernel
theorem d_bm_init_12 : decode b_bm_init 12 = .ok (.putfield 12, 3) := by decide +kernel
theorem d_bm_init_15 : decode b_bm_init 15 = .ok (.aload_n 0, 1) := by decide +kernel
theorem d_bm_init_16 : decode b_bm_init 16 = .ok (.new 16, 3) := by decide +kernel
theorem d_bm_init_19 : decode b_bm_init 19 = .ok (.dup, 1) := by decide +kernel
theorem d_bm_init_20 : decode b_bm_init 20 = .ok (.invokespecial 18, 3) := by decide +kernel
theorem d_bm_init_23 : decode b_bm_init 23 = .ok (.putfield 19, 3) := by decide +kernel
theorem d_bm_init_26 : decode b_bm_init 26 = .ok (.aload_n 0, 1) := by decide +kernel
theorem d_bm_init_27 : decode b_bm_init 27 = .ok (.new 23, 3) := by decide +kernel
theorem d_bm_init_30 : decode b_bm_init 30 = .ok (.dup, 1) := by decide +kernel
theorem d_bm_init_31 : decode b_bm_init 31 = .ok (.invokespecial 25, 3) := by decide +kernel
theorem d_bm_init_34 : decode b_bm_init 34 = .ok (.putfield 26, 3) := by decide +kernel
theorem d_bm_init_37 : decode b_bm_init 37 = .ok (.aload_n 0, 1) := by decide +kernel
theorem d_bm_init_38 : decode b_bm_init 38 = .ok (.new 23, 3) := by decide +kernel
theorem d_bm_init_41 : decode b_bm_init 41 = .ok (.dup, 1) := by decide +kernel
theorem d_bm_init_42 : decode b_bm_init 42 = .ok (.invokespecial 25, 3) := by decide +kernel
theorem d_bm_init_45 : decode b_bm_init 45 = .ok (.putfield 30, 3) := by decide +kernel
theorem d_bm_init_48 : decode b_bm_init 48 = .ok (.aload_n 0, 1) := by decide +kernel
theorem d_bm_init_49 : decode b_bm_init 49 = .ok (.new 33, 3) := by decide +kernel
theorem d_bm_init_52 : decode b_bm_init 52 = .ok (.dup, 1) := by decide +kernel
theorem d_bm_init_53 : decode b_bm_init 53 = .ok (.aload_n 0, 1) := by decide +kernel
theorem d_bm_init_54 : decode b_bm_init 54 = .ok (.getfield 19, 3) := by decide +kernel
theorem d_bm_init_57 : decode b_bm_init 57 = .ok (.iload_n 1, 1) := by decide +kernel
theorem d_bm_init_58 : decode b_bm_init 58 = .ok (.sipush 255, 3) := by decide +kernel
theorem d_bm_init_61 : decode b_bm_init 61 = .ok (.iand, 1) := by decide +kernel
theorem d_bm_init_62 : decode b_bm_init 62 = .ok (.iconst 5, 1) := by decide +kernel
theorem d_bm_init_63 : decode b_bm_init 63 = .ok (.irem, 1) := by decide +kernel
theorem d_bm_init_64 : decode b_bm_init 64 = .ok (.invokespecial 35, 3) := by decide +kernel
theorem d_bm_init_67 : decode b_bm_init 67 = .ok (.putfield 38, 3) := by decide +kernel
theorem d_bm_init_70 : decode b_bm_init 70 = .ok (.aload_n 0, 1) := by decide +kernel
theorem d_bm_init_71 : decode b_bm_init 71 = .ok (.new 42, 3) := by decide +kernel
theorem d_bm_init_74 : decode b_bm_init 74 = .ok (.dup, 1) := by decide +kernel
theorem d_bm_init_75 : decode b_bm_init 75 = .ok (.iconst 4, 1) := by decide +kernel
theorem d_bm_init_76 : decode b_bm_init 76 = .ok (.invokespecial 44, 3) := by decide +kernel
theorem d_bm_init_79 : decode b_bm_init 79 = .ok (.putfield 47, 3) := by decide +kernel
theorem d_bm_init_82 : decode b_bm_init 82 = .ok (.aload_n 0, 1) := by decide +kernel
theorem d_bm_init_83 : decode b_bm_init 83 = .ok (.new 51, 3) := by decide +kernel
theorem d_bm_init_86 : decode b_bm_init 86 = .ok (.dup, 1) := by decide +kernel
theorem d_bm_init_87 : decode b_bm_init 87 = .ok (.aload_n 0, 1) := by decide +kernel
theorem d_bm_init_88 : decode b_bm_init 88 = .ok (.getfield 12, 3) := by decide +kernel
theorem d_bm_init_91 : decode b_bm_init 91 = .ok (.aload_n 0, 1) := by decide +kernel
theorem d_bm_init_92 : decode b_bm_init 92 = .ok (.getfield 19, 3) := by decide +kernel
theorem d_bm_init_95 : decode b_bm_init 95 = .ok (.invokespecial 53, 3) := by decide +kernel
theorem d_bm_init_98 : decode b_bm_init 98 = .ok (.putfield 56, 3) := by decide +kernel
theorem d_bm_init_101 : decode b_bm_init 101 = .ok (.aload_n 0, 1) := by decide +kernel
theorem d_bm_init_102 : decode b_bm_init 102 = .ok (.new 42, 3) := by decide +kernel
theorem d_bm_init_105 : decode b_bm_init 105 = .ok (.dup, 1) := by decide +kernel
theorem d_bm_init_106 : decode b_bm_init 106 = .ok (.bipush 8, 2) := by decide +kernel
theorem d_bm_init_108 : decode b_bm_init 108 = .ok (.invokespecial 44, 3) := by decide +kernel
theorem d_bm_init_111 : decode b_bm_init 111 = .ok (.putfield 60, 3) := by decide +kernel
theorem d_bm_init_114 : decode b_bm_init 114 = .ok (.aload_n 0, 1) := by decide +kernel
theorem d_bm_init_115 : decode b_bm_init 115 = .ok (.new 51, 3) := by decide +kernel
theorem d_bm_init_118 : decode b_bm_init 118 = .ok (.dup, 1) := by decide +kernel
theorem d_bm_init_119 : decode b_bm_init 119 = .ok (.aload_n 0, 1) := by decide +kernel
theorem d_bm_init_120 : decode b_bm_init 120 = .ok (.getfield 12, 3) := by decide +kernel
theorem d_bm_init_123 : decode b_bm_init 123 = .ok (.aload_n 0, 1) := by decide +kernel
theorem d_bm_init_124 : decode b_bm_init 124 = .ok (.getfield 19, 3) := by decide +kernel
theorem d_bm_init_127 : decode b_bm_init 127 = .ok (.invokespecial 53, 3) := by decide +kernel
theorem d_bm_init_130 : decode b_bm_init 130 = .ok (.putfield 63, 3) := by decide +kernel
theorem d_bm_init_133 : decode b_bm_init 133 = .ok (.aload_n 0, 1) := by decide +kernel
theorem d_bm_init_134 : decode b_bm_init 134 = .ok (.getfield 38, 3) := by decide +kernel
theorem d_bm_init_137 : decode b_bm_init 137 = .ok (.iconst 0, 1) := by decide +kernel
theorem d_bm_init_138 : decode b_bm_init 138 = .ok (.invokevirtual 66, 3) := by decide +kernel
theorem d_bm_init_141 : decode b_bm_init 141 = .ok (.aload_n 0, 1) := by decide +kernel
theorem d_bm_init_142 : decode b_bm_init 142 = .ok (.invokevirtual 69, 3) := by decide +kernel
theorem d_bm_init_145 : decode b_bm_init 145 = .ok (.return_, 1) := by decide +kernel
theorem d_bm_slotOf_0 : decode b_bm_slotOf 0 = .ok (.iload_n 0, 1) := by decide +kernel
theorem d_bm_slotOf_1 : decode b_bm_slotOf 1 = .ok (.ifCond .lt 24, 3) := by decide +kernel
theorem d_bm_slotOf_4 : decode b_bm_slotOf 4 = .ok (.iload_n 0, 1) := by decide +kernel
theorem d_bm_slotOf_5 : decode b_bm_slotOf 5 = .ok (.bipush 40, 2) := by decide +kernel
theorem d_bm_slotOf_7 : decode b_bm_slotOf 7 = .ok (.if_icmp .ge 18, 3) := by decide +kernel
theorem d_bm_slotOf_10 : decode b_bm_slotOf 10 = .ok (.iload_n 1, 1) := by decide +kernel
theorem d_bm_slotOf_11 : decode b_bm_slotOf 11 = .ok (.ifCond .lt 14, 3) := by decide +kernel
theorem d_bm_slotOf_14 : decode b_bm_slotOf 14 = .ok (.iload_n 1, 1) := by decide +kernel
theorem d_bm_slotOf_15 : decode b_bm_slotOf 15 = .ok (.iconst 2, 1) := by decide +kernel
theorem d_bm_slotOf_16 : decode b_bm_slotOf 16 = .ok (.if_icmp .ge 9, 3) := by decide +kernel
theorem d_bm_slotOf_19 : decode b_bm_slotOf 19 = .ok (.iload_n 0, 1) := by decide +kernel
theorem d_bm_slotOf_20 : decode b_bm_slotOf 20 = .ok (.iconst 2, 1) := by decide +kernel
theorem d_bm_slotOf_21 : decode b_bm_slotOf 21 = .ok (.imul, 1) := by decide +kernel
theorem d_bm_slotOf_22 : decode b_bm_slotOf 22 = .ok (.iload_n 1, 1) := by decide +kernel
theorem d_bm_slotOf_23 : decode b_bm_slotOf 23 = .ok (.iadd, 1) := by decide +kernel
theorem d_bm_slotOf_24 : decode b_bm_slotOf 24 = .ok (.ireturn, 1) := by decide +kernel
theorem d_bm_slotOf_25 : decode b_bm_slotOf 25 = .ok (.iload_n 0, 1) := by decide +kernel
theorem d_bm_slotOf_26 : decode b_bm_slotOf 26 = .ok (.bipush 100, 2) := by decide +kernel
