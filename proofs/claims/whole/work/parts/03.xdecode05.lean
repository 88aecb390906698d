theorem d_mm_in_7 : decode b_mm_in 7 = .ok (.ifCond .ne 7, 3) := by decide +kernel
theorem d_mm_in_10 : decode b_mm_in 10 = .ok (.iconst 1, 1) := by decide +kernel
theorem d_mm_in_11 : decode b_mm_in 11 = .ok (.goto 4, 3) := by decide +kernel
theorem d_mm_in_14 : decode b_mm_in 14 = .ok (.iconst 0, 1) := by decide +kernel
theorem d_mm_in_15 : decode b_mm_in 15 = .ok (.ireturn, 1) := by decide +kernel
theorem d_mm_tips_0 : decode b_mm_tips 0 = .ok (.aload_n 0, 1) := by decide +kernel
theorem d_mm_tips_1 : decode b_mm_tips 1 = .ok (.getfield 56, 3) := by decide +kernel
theorem d_mm_tips_4 : decode b_mm_tips 4 = .ok (.lstore_n 1, 1) := by decide +kernel
theorem d_mm_tips_5 : decode b_mm_tips 5 = .ok (.iconst 0, 1) := by decide +kernel
theorem d_mm_tips_6 : decode b_mm_tips 6 = .ok (.istore_n 3, 1) := by decide +kernel
theorem d_mm_tips_7 : decode b_mm_tips 7 = .ok (.iload_n 3, 1) := by decide +kernel
theorem d_mm_tips_8 : decode b_mm_tips 8 = .ok (.aload_n 0, 1) := by decide +kernel
theorem d_mm_tips_9 : decode b_mm_tips 9 = .ok (.getfield 34, 3) := by decide +kernel
theorem d_mm_tips_12 : decode b_mm_tips 12 = .ok (.if_icmp .ge 60, 3) := by decide +kernel
theorem d_mm_tips_15 : decode b_mm_tips 15 = .ok (.iconst 0, 1) := by decide +kernel
theorem d_mm_tips_16 : decode b_mm_tips 16 = .ok (.istore 4, 2) := by decide +kernel
theorem d_mm_tips_18 : decode b_mm_tips 18 = .ok (.iload 4, 2) := by decide +kernel
theorem d_mm_tips_20 : decode b_mm_tips 20 = .ok (.aload_n 0, 1) := by decide +kernel
theorem d_mm_tips_21 : decode b_mm_tips 21 = .ok (.getfield 38, 3) := by decide +kernel
theorem d_mm_tips_24 : decode b_mm_tips 24 = .ok (.iload_n 3, 1) := by decide +kernel
theorem d_mm_tips_25 : decode b_mm_tips 25 = .ok (.iaload, 1) := by decide +kernel
theorem d_mm_tips_26 : decode b_mm_tips 26 = .ok (.if_icmp .ge 40, 3) := by decide +kernel
theorem d_mm_tips_29 : decode b_mm_tips 29 = .ok (.aload_n 0, 1) := by decide +kernel
theorem d_mm_tips_30 : decode b_mm_tips 30 = .ok (.getfield 56, 3) := by decide +kernel
theorem d_mm_tips_33 : decode b_mm_tips 33 = .ok (.iload_n 3, 1) := by decide +kernel
theorem d_mm_tips_34 : decode b_mm_tips 34 = .ok (.invokestatic 125, 3) := by decide +kernel
theorem d_mm_tips_37 : decode b_mm_tips 37 = .ok (.ifCond .eq 29, 3) := by decide +kernel
theorem d_mm_tips_40 : decode b_mm_tips 40 = .ok (.lload_n 1, 1) := by decide +kernel
theorem d_mm_tips_41 : decode b_mm_tips 41 = .ok (.lconst 1, 1) := by decide +kernel
theorem d_mm_tips_42 : decode b_mm_tips 42 = .ok (.aload_n 0, 1) := by decide +kernel
theorem d_mm_tips_43 : decode b_mm_tips 43 = .ok (.getfield 41, 3) := by decide +kernel
theorem d_mm_tips_46 : decode b_mm_tips 46 = .ok (.iconst 4, 1) := by decide +kernel
theorem d_mm_tips_47 : decode b_mm_tips 47 = .ok (.iload_n 3, 1) := by decide +kernel
theorem d_mm_tips_48 : decode b_mm_tips 48 = .ok (.imul, 1) := by decide +kernel
theorem d_mm_tips_49 : decode b_mm_tips 49 = .ok (.iload 4, 2) := by decide +kernel
theorem d_mm_tips_51 : decode b_mm_tips 51 = .ok (.iadd, 1) := by decide +kernel
theorem d_mm_tips_52 : decode b_mm_tips 52 = .ok (.iaload, 1) := by decide +kernel
theorem d_mm_tips_53 : decode b_mm_tips 53 = .ok (.lshl, 1) := by decide +kernel
theorem d_mm_tips_54 : decode b_mm_tips 54 = .ok (.ldc2_w 129, 3) := by decide +kernel
theorem d_mm_tips_57 : decode b_mm_tips 57 = .ok (.lxor, 1) := by decide +kernel
theorem d_mm_tips_58 : decode b_mm_tips 58 = .ok (.land, 1) := by decide +kernel
theorem d_mm_tips_59 : decode b_mm_tips 59 = .ok (.lstore_n 1, 1) := by decide +kernel
theorem d_mm_tips_60 : decode b_mm_tips 60 = .ok (.iinc 4 1, 3) := by decide +kernel
theorem d_mm_tips_63 : decode b_mm_tips 63 = .ok (.goto (-45), 3) := by decide +kernel
theorem d_mm_tips_66 : decode b_mm_tips 66 = .ok (.iinc 3 1, 3) := by decide +kernel
theorem d_mm_tips_69 : decode b_mm_tips 69 = .ok (.goto (-62), 3) := by decide +kernel
theorem d_mm_tips_72 : decode b_mm_tips 72 = .ok (.lload_n 1, 1) := by decide +kernel
theorem d_mm_tips_73 : decode b_mm_tips 73 = .ok (.lreturn, 1) := by decide +kernel
theorem d_mm_earlier_0 : decode b_mm_earlier 0 = .ok (.aload_n 0, 1) := by decide +kernel
theorem d_mm_earlier_1 : decode b_mm_earlier 1 = .ok (.getfield 53, 3) := by decide +kernel
theorem d_mm_earlier_4 : decode b_mm_earlier 4 = .ok (.iload_n 1, 1) := by decide +kernel
theorem d_mm_earlier_5 : decode b_mm_earlier 5 = .ok (.iaload, 1) := by decide +kernel
theorem d_mm_earlier_6 : decode b_mm_earlier 6 = .ok (.aload_n 0, 1) := by decide +kernel
theorem d_mm_earlier_7 : decode b_mm_earlier 7 = .ok (.getfield 53, 3) := by decide +kernel
theorem d_mm_earlier_10 : decode b_mm_earlier 10 = .ok (.iload_n 2, 1) := by decide +kernel
theorem d_mm_earlier_11 : decode b_mm_earlier 11 = .ok (.iaload, 1) := by decide +kernel
theorem d_mm_earlier_12 : decode b_mm_earlier 12 = .ok (.if_icmp .lt 23, 3) := by decide +kernel
theorem d_mm_earlier_15 : decode b_mm_earlier 15 = .ok (.aload_n 0, 1) := by decide +kernel
theorem d_mm_earlier_16 : decode b_mm_earlier 16 = .ok (.getfield 53, 3) := by decide +kernel
theorem d_mm_earlier_19 : decode b_mm_earlier 19 = .ok (.iload_n 1, 1) := by decide +kernel
theorem d_mm_earlier_20 : decode b_mm_earlier 20 = .ok (.iaload, 1) := by decide +kernel
theorem d_mm_earlier_21 : decode b_mm_earlier 21 = .ok (.aload_n 0, 1) := by decide +kernel
theorem d_mm_earlier_22 : decode b_mm_earlier 22 = .ok (.getfield 53, 3) := by decide +kernel
theorem d_mm_earlier_25 : decode b_mm_earlier 25 = .ok (.iload_n 2, 1) := by decide +kernel
theorem d_mm_earlier_26 : decode b_mm_earlier 26 = .ok (.iaload, 1) := by decide +kernel
theorem d_mm_earlier_27 : decode b_mm_earlier 27 = .ok (.if_icmp .ne 12, 3) := by decide +kernel
theorem d_mm_earlier_30 : decode b_mm_earlier 30 = .ok (.iload_n 1, 1) := by decide +kernel
theorem d_mm_earlier_31 : decode b_mm_earlier 31 = .ok (.iload_n 2, 1) := by decide +kernel
theorem d_mm_earlier_32 : decode b_mm_earlier 32 = .ok (.if_icmp .ge 7, 3) := by decide +kernel
theorem d_mm_earlier_35 : decode b_mm_earlier 35 = .ok (.iconst 1, 1) := by decide +kernel
theorem d_mm_earlier_36 : decode b_mm_earlier 36 = .ok (.goto 4, 3) := by decide +kernel
theorem d_mm_earlier_39 : decode b_mm_earlier 39 = .ok (.iconst 0, 1) := by decide +kernel
theorem d_mm_earlier_40 : decode b_mm_earlier 40 = .ok (.ireturn, 1) := by decide +kernel
theorem d_mm_merge_0 : decode b_mm_merge 0 = .ok (.aload_n 0, 1) := by decide +kernel
theorem d_mm_merge_1 : decode b_mm_merge 1 = .ok (.getfield 60, 3) := by decide +kernel
theorem d_mm_merge_4 : decode b_mm_merge 4 = .ok (.iload_n 1, 1) := by decide +kernel
theorem d_mm_merge_5 : decode b_mm_merge 5 = .ok (.laload, 1) := by decide +kernel
theorem d_mm_merge_6 : decode b_mm_merge 6 = .ok (.aload_n 0, 1) := by decide +kernel
theorem d_mm_merge_7 : decode b_mm_merge 7 = .ok (.getfield 60, 3) := by decide +kernel
theorem d_mm_merge_10 : decode b_mm_merge 10 = .ok (.aload_n 0, 1) := by decide +kernel
theorem d_mm_merge_11 : decode b_mm_merge 11 = .ok (.getfield 70, 3) := by decide +kernel
theorem d_mm_merge_14 : decode b_mm_merge 14 = .ok (.iload_n 1, 1) := by decide +kernel
theorem d_mm_merge_15 : decode b_mm_merge 15 = .ok (.iaload, 1) := by decide +kernel
theorem d_mm_merge_16 : decode b_mm_merge 16 = .ok (.laload, 1) := by decide +kernel
theorem d_mm_merge_17 : decode b_mm_merge 17 = .ok (.ldc2_w 129, 3) := by decide +kernel
theorem d_mm_merge_20 : decode b_mm_merge 20 = .ok (.lxor, 1) := by decide +kernel
theorem d_mm_merge_21 : decode b_mm_merge 21 = .ok (.land, 1) := by decide +kernel
theorem d_mm_merge_22 : decode b_mm_merge 22 = .ok (.lconst 1, 1) := by decide +kernel
theorem d_mm_merge_23 : decode b_mm_merge 23 = .ok (.aload_n 0, 1) := by decide +kernel
theorem d_mm_merge_24 : decode b_mm_merge 24 = .ok (.getfield 70, 3) := by decide +kernel
theorem d_mm_merge_27 : decode b_mm_merge 27 = .ok (.iload_n 1, 1) := by decide +kernel
theorem d_mm_merge_28 : decode b_mm_merge 28 = .ok (.iaload, 1) := by decide +kernel
theorem d_mm_merge_29 : decode b_mm_merge 29 = .ok (.lshl, 1) := by decide +kernel
theorem d_mm_merge_30 : decode b_mm_merge 30 = .ok (.ldc2_w 129, 3) := by decide +kernel
theorem d_mm_merge_33 : decode b_mm_merge 33 = .ok (.lxor, 1) := by decide +kernel
theorem d_mm_merge_34 : decode b_mm_merge 34 = .ok (.land, 1) := by decide +kernel
theorem d_mm_merge_35 : decode b_mm_merge 35 = .ok (.lstore_n 2, 1) := by decide +kernel
theorem d_mm_merge_36 : decode b_mm_merge 36 = .ok (.iconst 0, 1) := by decide +kernel
theorem d_mm_merge_37 : decode b_mm_merge 37 = .ok (.istore 4, 2) := by decide +kernel
theorem d_mm_merge_39 : decode b_mm_merge 39 = .ok (.lload_n 2, 1) := by decide +kernel
theorem d_mm_merge_40 : decode b_mm_merge 40 = .ok (.lconst 0, 1) := by decide +kernel
theorem d_mm_merge_41 : decode b_mm_merge 41 = .ok (.lcmp, 1) := by decide +kernel
theorem d_mm_merge_42 : decode b_mm_merge 42 = .ok (.ifCond .eq 128, 3) := by decide +kernel
theorem d_mm_merge_45 : decode b_mm_merge 45 = .ok (.iconst (-1), 1) := by decide +kernel
theorem d_mm_merge_46 : decode b_mm_merge 46 = .ok (.istore 5, 2) := by decide +kernel
theorem d_mm_merge_48 : decode b_mm_merge 48 = .ok (.iconst 0, 1) := by decide +kernel
theorem d_mm_merge_49 : decode b_mm_merge 49 = .ok (.istore 6, 2) := by decide +kernel
theorem d_mm_merge_51 : decode b_mm_merge 51 = .ok (.iload 6, 2) := by decide +kernel
theorem d_mm_merge_53 : decode b_mm_merge 53 = .ok (.bipush 60, 2) := by decide +kernel
theorem d_mm_merge_55 : decode b_mm_merge 55 = .ok (.if_icmp .ge 89, 3) := by decide +kernel
theorem d_mm_merge_58 : decode b_mm_merge 58 = .ok (.lload_n 2, 1) := by decide +kernel
theorem d_mm_merge_59 : decode b_mm_merge 59 = .ok (.iload 6, 2) := by decide +kernel
theorem d_mm_merge_61 : decode b_mm_merge 61 = .ok (.invokestatic 125, 3) := by decide +kernel
theorem d_mm_merge_64 : decode b_mm_merge 64 = .ok (.ifCond .eq 57, 3) := by decide +kernel
theorem d_mm_merge_67 : decode b_mm_merge 67 = .ok (.iload 5, 2) := by decide +kernel
theorem d_mm_merge_69 : decode b_mm_merge 69 = .ok (.ifCond .lt 48, 3) := by decide +kernel
theorem d_mm_merge_72 : decode b_mm_merge 72 = .ok (.aload_n 0, 1) := by decide +kernel
theorem d_mm_merge_73 : decode b_mm_merge 73 = .ok (.getfield 67, 3) := by decide +kernel
theorem d_mm_merge_76 : decode b_mm_merge 76 = .ok (.iload 6, 2) := by decide +kernel
theorem d_mm_merge_78 : decode b_mm_merge 78 = .ok (.iaload, 1) := by decide +kernel
theorem d_mm_merge_79 : decode b_mm_merge 79 = .ok (.aload_n 0, 1) := by decide +kernel
theorem d_mm_merge_80 : decode b_mm_merge 80 = .ok (.getfield 67, 3) := by decide +kernel
theorem d_mm_merge_83 : decode b_mm_merge 83 = .ok (.iload 5, 2) := by decide +kernel
theorem d_mm_merge_85 : decode b_mm_merge 85 = .ok (.iaload, 1) := by decide +kernel
theorem d_mm_merge_86 : decode b_mm_merge 86 = .ok (.if_icmp .lt 31, 3) := by decide +kernel
theorem d_mm_merge_89 : decode b_mm_merge 89 = .ok (.aload_n 0, 1) := by decide +kernel
theorem d_mm_merge_90 : decode b_mm_merge 90 = .ok (.getfield 67, 3) := by decide +kernel
theorem d_mm_merge_93 : decode b_mm_merge 93 = .ok (.iload 6, 2) := by decide +kernel
theorem d_mm_merge_95 : decode b_mm_merge 95 = .ok (.iaload, 1) := by decide +kernel
theorem d_mm_merge_96 : decode b_mm_merge 96 = .ok (.aload_n 0, 1) := by decide +kernel
theorem d_mm_merge_97 : decode b_mm_merge 97 = .ok (.getfield 67, 3) := by decide +kernel
theorem d_mm_merge_100 : decode b_mm_merge 100 = .ok (.iload 5, 2) := by decide +kernel
theorem d_mm_merge_102 : decode b_mm_merge 102 = .ok (.iaload, 1) := by decide +kernel
theorem d_mm_merge_103 : decode b_mm_merge 103 = .ok (.if_icmp .ne 18, 3) := by decide +kernel
theorem d_mm_merge_106 : decode b_mm_merge 106 = .ok (.aload_n 0, 1) := by decide +kernel
theorem d_mm_merge_107 : decode b_mm_merge 107 = .ok (.iload 6, 2) := by decide +kernel
theorem d_mm_merge_109 : decode b_mm_merge 109 = .ok (.iload 5, 2) := by decide +kernel
theorem d_mm_merge_111 : decode b_mm_merge 111 = .ok (.invokevirtual 131, 3) := by decide +kernel
theorem d_mm_merge_114 : decode b_mm_merge 114 = .ok (.ifCond .eq 7, 3) := by decide +kernel
theorem d_mm_merge_117 : decode b_mm_merge 117 = .ok (.iconst 1, 1) := by decide +kernel
theorem d_mm_merge_118 : decode b_mm_merge 118 = .ok (.goto 4, 3) := by decide +kernel
theorem d_mm_merge_121 : decode b_mm_merge 121 = .ok (.iconst 0, 1) := by decide +kernel
theorem d_mm_merge_122 : decode b_mm_merge 122 = .ok (.istore 7, 2) := by decide +kernel
theorem d_mm_merge_124 : decode b_mm_merge 124 = .ok (.iload 7, 2) := by decide +kernel
theorem d_mm_merge_126 : decode b_mm_merge 126 = .ok (.ifCond .eq 8, 3) := by decide +kernel
theorem d_mm_merge_129 : decode b_mm_merge 129 = .ok (.iload 6, 2) := by decide +kernel
theorem d_mm_merge_131 : decode b_mm_merge 131 = .ok (.goto 5, 3) := by decide +kernel
theorem d_mm_merge_134 : decode b_mm_merge 134 = .ok (.iload 5, 2) := by decide +kernel
theorem d_mm_merge_136 : decode b_mm_merge 136 = .ok (.istore 5, 2) := by decide +kernel
theorem d_mm_merge_138 : decode b_mm_merge 138 = .ok (.iinc 6 1, 3) := by decide +kernel
theorem d_mm_merge_141 : decode b_mm_merge 141 = .ok (.goto (-90), 3) := by decide +kernel
theorem d_mm_merge_144 : decode b_mm_merge 144 = .ok (.aload_n 0, 1) := by decide +kernel
theorem d_mm_merge_145 : decode b_mm_merge 145 = .ok (.getfield 82, 3) := by decide +kernel
theorem d_mm_merge_148 : decode b_mm_merge 148 = .ok (.iload 4, 2) := by decide +kernel
theorem d_mm_merge_150 : decode b_mm_merge 150 = .ok (.iload 5, 2) := by decide +kernel
theorem d_mm_merge_152 : decode b_mm_merge 152 = .ok (.iastore, 1) := by decide +kernel
theorem d_mm_merge_153 : decode b_mm_merge 153 = .ok (.iinc 4 1, 3) := by decide +kernel
theorem d_mm_merge_156 : decode b_mm_merge 156 = .ok (.lload_n 2, 1) := by decide +kernel
theorem d_mm_merge_157 : decode b_mm_merge 157 = .ok (.lconst 1, 1) := by decide +kernel
theorem d_mm_merge_158 : decode b_mm_merge 158 = .ok (.iload 5, 2) := by decide +kernel
theorem d_mm_merge_160 : decode b_mm_merge 160 = .ok (.lshl, 1) := by decide +kernel
theorem d_mm_merge_161 : decode b_mm_merge 161 = .ok (.ldc2_w 129, 3) := by decide +kernel
theorem d_mm_merge_164 : decode b_mm_merge 164 = .ok (.lxor, 1) := by decide +kernel
theorem d_mm_merge_165 : decode b_mm_merge 165 = .ok (.land, 1) := by decide +kernel
theorem d_mm_merge_166 : decode b_mm_merge 166 = .ok (.lstore_n 2, 1) := by decide +kernel
theorem d_mm_merge_167 : decode b_mm_merge 167 = .ok (.goto (-128), 3) := by decide +kernel
theorem d_mm_merge_170 : decode b_mm_merge 170 = .ok (.iload 4, 2) := by decide +kernel
theorem d_mm_merge_172 : decode b_mm_merge 172 = .ok (.ireturn, 1) := by decide +kernel
theorem d_mm_goes_0 : decode b_mm_goes 0 = .ok (.iconst 0, 1) := by decide +kernel
theorem d_mm_goes_1 : decode b_mm_goes 1 = .ok (.istore_n 3, 1) := by decide +kernel
theorem d_mm_goes_2 : decode b_mm_goes 2 = .ok (.iload_n 3, 1) := by decide +kernel
theorem d_mm_goes_3 : decode b_mm_goes 3 = .ok (.bipush 60, 2) := by decide +kernel
theorem d_mm_goes_5 : decode b_mm_goes 5 = .ok (.if_icmp .ge 113, 3) := by decide +kernel
theorem d_mm_goes_8 : decode b_mm_goes 8 = .ok (.iconst 0, 1) := by decide +kernel
theorem d_mm_goes_9 : decode b_mm_goes 9 = .ok (.istore 4, 2) := by decide +kernel
theorem d_mm_goes_11 : decode b_mm_goes 11 = .ok (.iconst 0, 1) := by decide +kernel
theorem d_mm_goes_12 : decode b_mm_goes 12 = .ok (.istore 5, 2) := by decide +kernel
theorem d_mm_goes_14 : decode b_mm_goes 14 = .ok (.iload 5, 2) := by decide +kernel
theorem d_mm_goes_16 : decode b_mm_goes 16 = .ok (.bipush 60, 2) := by decide +kernel
theorem d_mm_goes_18 : decode b_mm_goes 18 = .ok (.if_icmp .ge 83, 3) := by decide +kernel
theorem d_mm_goes_21 : decode b_mm_goes 21 = .ok (.lload_n 1, 1) := by decide +kernel
theorem d_mm_goes_22 : decode b_mm_goes 22 = .ok (.iload_n 3, 1) := by decide +kernel
theorem d_mm_goes_23 : decode b_mm_goes 23 = .ok (.invokestatic 125, 3) := by decide +kernel
theorem d_mm_goes_26 : decode b_mm_goes 26 = .ok (.ifCond .eq 75, 3) := by decide +kernel
theorem d_mm_goes_29 : decode b_mm_goes 29 = .ok (.iload_n 3, 1) := by decide +kernel
theorem d_mm_goes_30 : decode b_mm_goes 30 = .ok (.iload 5, 2) := by decide +kernel
theorem d_mm_goes_32 : decode b_mm_goes 32 = .ok (.if_icmp .eq 44, 3) := by decide +kernel
theorem d_mm_goes_35 : decode b_mm_goes 35 = .ok (.lload_n 1, 1) := by decide +kernel
theorem d_mm_goes_36 : decode b_mm_goes 36 = .ok (.iload 5, 2) := by decide +kernel
theorem d_mm_goes_38 : decode b_mm_goes 38 = .ok (.invokestatic 125, 3) := by decide +kernel
theorem d_mm_goes_41 : decode b_mm_goes 41 = .ok (.ifCond .eq 35, 3) := by decide +kernel
theorem d_mm_goes_44 : decode b_mm_goes 44 = .ok (.aload_n 0, 1) := by decide +kernel
theorem d_mm_goes_45 : decode b_mm_goes 45 = .ok (.getfield 60, 3) := by decide +kernel
theorem d_mm_goes_48 : decode b_mm_goes 48 = .ok (.iload_n 3, 1) := by decide +kernel
theorem d_mm_goes_49 : decode b_mm_goes 49 = .ok (.laload, 1) := by decide +kernel
theorem d_mm_goes_50 : decode b_mm_goes 50 = .ok (.iload 5, 2) := by decide +kernel
theorem d_mm_goes_52 : decode b_mm_goes 52 = .ok (.invokestatic 125, 3) := by decide +kernel
theorem d_mm_goes_55 : decode b_mm_goes 55 = .ok (.ifCond .ne 21, 3) := by decide +kernel
theorem d_mm_goes_58 : decode b_mm_goes 58 = .ok (.aload_n 0, 1) := by decide +kernel
theorem d_mm_goes_59 : decode b_mm_goes 59 = .ok (.getfield 60, 3) := by decide +kernel
theorem d_mm_goes_62 : decode b_mm_goes 62 = .ok (.iload 5, 2) := by decide +kernel
theorem d_mm_goes_64 : decode b_mm_goes 64 = .ok (.laload, 1) := by decide +kernel
theorem d_mm_goes_65 : decode b_mm_goes 65 = .ok (.iload_n 3, 1) := by decide +kernel
theorem d_mm_goes_66 : decode b_mm_goes 66 = .ok (.invokestatic 125, 3) := by decide +kernel
theorem d_mm_goes_69 : decode b_mm_goes 69 = .ok (.ifCond .ne 7, 3) := by decide +kernel
theorem d_mm_goes_72 : decode b_mm_goes 72 = .ok (.iconst 1, 1) := by decide +kernel
theorem d_mm_goes_73 : decode b_mm_goes 73 = .ok (.goto 4, 3) := by decide +kernel
theorem d_mm_goes_76 : decode b_mm_goes 76 = .ok (.iconst 0, 1) := by decide +kernel
theorem d_mm_goes_77 : decode b_mm_goes 77 = .ok (.istore 6, 2) := by decide +kernel
theorem d_mm_goes_79 : decode b_mm_goes 79 = .ok (.iload 6, 2) := by decide +kernel
theorem d_mm_goes_81 : decode b_mm_goes 81 = .ok (.ifCond .eq 10, 3) := by decide +kernel
theorem d_mm_goes_84 : decode b_mm_goes 84 = .ok (.iload 4, 2) := by decide +kernel
theorem d_mm_goes_86 : decode b_mm_goes 86 = .ok (.iconst 1, 1) := by decide +kernel
theorem d_mm_goes_87 : decode b_mm_goes 87 = .ok (.iadd, 1) := by decide +kernel
theorem d_mm_goes_88 : decode b_mm_goes 88 = .ok (.goto 5, 3) := by decide +kernel
theorem d_mm_goes_91 : decode b_mm_goes 91 = .ok (.iload 4, 2) := by decide +kernel
theorem d_mm_goes_93 : decode b_mm_goes 93 = .ok (.istore 4, 2) := by decide +kernel
theorem d_mm_goes_95 : decode b_mm_goes 95 = .ok (.iinc 5 1, 3) := by decide +kernel
theorem d_mm_goes_98 : decode b_mm_goes 98 = .ok (.goto (-84), 3) := by decide +kernel
theorem d_mm_goes_101 : decode b_mm_goes 101 = .ok (.iload 4, 2) := by decide +kernel
theorem d_mm_goes_103 : decode b_mm_goes 103 = .ok (.aload_n 0, 1) := by decide +kernel
theorem d_mm_goes_104 : decode b_mm_goes 104 = .ok (.getfield 98, 3) := by decide +kernel
theorem d_mm_goes_107 : decode b_mm_goes 107 = .ok (.if_icmp .le 5, 3) := by decide +kernel
theorem d_mm_goes_110 : decode b_mm_goes 110 = .ok (.iconst 0, 1) := by decide +kernel
theorem d_mm_goes_111 : decode b_mm_goes 111 = .ok (.ireturn, 1) := by decide +kernel
theorem d_mm_goes_112 : decode b_mm_goes 112 = .ok (.iinc 3 1, 3) := by decide +kernel
theorem d_mm_goes_115 : decode b_mm_goes 115 = .ok (.goto (-113), 3) := by decide +kernel
theorem d_mm_goes_118 : decode b_mm_goes 118 = .ok (.iconst 1, 1) := by decide +kernel
theorem d_mm_goes_119 : decode b_mm_goes 119 = .ok (.ireturn, 1) := by decide +kernel
theorem d_mm_many_0 : decode b_mm_many 0 = .ok (.iconst 0, 1) := by decide +kernel
theorem d_mm_many_1 : decode b_mm_many 1 = .ok (.istore_n 2, 1) := by decide +kernel
theorem d_mm_many_2 : decode b_mm_many 2 = .ok (.iconst 0, 1) := by decide +kernel
theorem d_mm_many_3 : decode b_mm_many 3 = .ok (.istore_n 3, 1) := by decide +kernel
theorem d_mm_many_4 : decode b_mm_many 4 = .ok (.iload_n 3, 1) := by decide +kernel
theorem d_mm_many_5 : decode b_mm_many 5 = .ok (.bipush 60, 2) := by decide +kernel
theorem d_mm_many_7 : decode b_mm_many 7 = .ok (.if_icmp .ge 25, 3) := by decide +kernel
theorem d_mm_many_10 : decode b_mm_many 10 = .ok (.lload_n 0, 1) := by decide +kernel
theorem d_mm_many_11 : decode b_mm_many 11 = .ok (.iload_n 3, 1) := by decide +kernel
theorem d_mm_many_12 : decode b_mm_many 12 = .ok (.invokestatic 125, 3) := by decide +kernel
theorem d_mm_many_15 : decode b_mm_many 15 = .ok (.ifCond .eq 9, 3) := by decide +kernel
theorem d_mm_many_18 : decode b_mm_many 18 = .ok (.iload_n 2, 1) := by decide +kernel
theorem d_mm_many_19 : decode b_mm_many 19 = .ok (.iconst 1, 1) := by decide +kernel
theorem d_mm_many_20 : decode b_mm_many 20 = .ok (.iadd, 1) := by decide +kernel
theorem d_mm_many_21 : decode b_mm_many 21 = .ok (.goto 4, 3) := by decide +kernel
theorem d_mm_many_24 : decode b_mm_many 24 = .ok (.iload_n 2, 1) := by decide +kernel
theorem d_mm_many_25 : decode b_mm_many 25 = .ok (.istore_n 2, 1) := by decide +kernel
theorem d_mm_many_26 : decode b_mm_many 26 = .ok (.iinc 3 1, 3) := by decide +kernel
theorem d_mm_many_29 : decode b_mm_many 29 = .ok (.goto (-25), 3) := by decide +kernel
theorem d_mm_many_32 : decode b_mm_many 32 = .ok (.iload_n 2, 1) := by decide +kernel
theorem d_mm_many_33 : decode b_mm_many 33 = .ok (.ireturn, 1) := by decide +kernel
theorem d_mm_work_0 : decode b_mm_work 0 = .ok (.iconst (-1), 1) := by decide +kernel
theorem d_mm_work_1 : decode b_mm_work 1 = .ok (.istore 4, 2) := by decide +kernel
theorem d_mm_work_3 : decode b_mm_work 3 = .ok (.lload_n 2, 1) := by decide +kernel
theorem d_mm_work_4 : decode b_mm_work 4 = .ok (.lstore 5, 2) := by decide +kernel
theorem d_mm_work_6 : decode b_mm_work 6 = .ok (.iconst 0, 1) := by decide +kernel
theorem d_mm_work_7 : decode b_mm_work 7 = .ok (.istore 7, 2) := by decide +kernel
theorem d_mm_work_9 : decode b_mm_work 9 = .ok (.iload 7, 2) := by decide +kernel
theorem d_mm_work_11 : decode b_mm_work 11 = .ok (.bipush 60, 2) := by decide +kernel
theorem d_mm_work_13 : decode b_mm_work 13 = .ok (.if_icmp .ge 87, 3) := by decide +kernel
theorem d_mm_work_16 : decode b_mm_work 16 = .ok (.lload_n 2, 1) := by decide +kernel
theorem d_mm_work_17 : decode b_mm_work 17 = .ok (.iload 7, 2) := by decide +kernel
theorem d_mm_work_19 : decode b_mm_work 19 = .ok (.invokestatic 125, 3) := by decide +kernel
theorem d_mm_work_22 : decode b_mm_work 22 = .ok (.ifCond .ne 6, 3) := by decide +kernel
theorem d_mm_work_25 : decode b_mm_work 25 = .ok (.goto 69, 3) := by decide +kernel
theorem d_mm_work_28 : decode b_mm_work 28 = .ok (.lload 5, 2) := by decide +kernel
theorem d_mm_work_30 : decode b_mm_work 30 = .ok (.aload_n 0, 1) := by decide +kernel
theorem d_mm_work_31 : decode b_mm_work 31 = .ok (.getfield 60, 3) := by decide +kernel
theorem d_mm_work_34 : decode b_mm_work 34 = .ok (.iload 7, 2) := by decide +kernel
theorem d_mm_work_36 : decode b_mm_work 36 = .ok (.laload, 1) := by decide +kernel
theorem d_mm_work_37 : decode b_mm_work 37 = .ok (.lor, 1) := by decide +kernel
theorem d_mm_work_38 : decode b_mm_work 38 = .ok (.lstore 5, 2) := by decide +kernel
theorem d_mm_work_40 : decode b_mm_work 40 = .ok (.iload 4, 2) := by decide +kernel
theorem d_mm_work_42 : decode b_mm_work 42 = .ok (.ifCond .lt 48, 3) := by decide +kernel
theorem d_mm_work_45 : decode b_mm_work 45 = .ok (.aload_n 0, 1) := by decide +kernel
theorem d_mm_work_46 : decode b_mm_work 46 = .ok (.getfield 67, 3) := by decide +kernel
theorem d_mm_work_49 : decode b_mm_work 49 = .ok (.iload 7, 2) := by decide +kernel
theorem d_mm_work_51 : decode b_mm_work 51 = .ok (.iaload, 1) := by decide +kernel
theorem d_mm_work_52 : decode b_mm_work 52 = .ok (.aload_n 0, 1) := by decide +kernel
theorem d_mm_work_53 : decode b_mm_work 53 = .ok (.getfield 67, 3) := by decide +kernel
theorem d_mm_work_56 : decode b_mm_work 56 = .ok (.iload 4, 2) := by decide +kernel
theorem d_mm_work_58 : decode b_mm_work 58 = .ok (.iaload, 1) := by decide +kernel
theorem d_mm_work_59 : decode b_mm_work 59 = .ok (.if_icmp .gt 31, 3) := by decide +kernel
theorem d_mm_work_62 : decode b_mm_work 62 = .ok (.aload_n 0, 1) := by decide +kernel
theorem d_mm_work_63 : decode b_mm_work 63 = .ok (.getfield 67, 3) := by decide +kernel
theorem d_mm_work_66 : decode b_mm_work 66 = .ok (.iload 7, 2) := by decide +kernel
theorem d_mm_work_68 : decode b_mm_work 68 = .ok (.iaload, 1) := by decide +kernel
theorem d_mm_work_69 : decode b_mm_work 69 = .ok (.aload_n 0, 1) := by decide +kernel
theorem d_mm_work_70 : decode b_mm_work 70 = .ok (.getfield 67, 3) := by decide +kernel
theorem d_mm_work_73 : decode b_mm_work 73 = .ok (.iload 4, 2) := by decide +kernel
theorem d_mm_work_75 : decode b_mm_work 75 = .ok (.iaload, 1) := by decide +kernel
theorem d_mm_work_76 : decode b_mm_work 76 = .ok (.if_icmp .ne 18, 3) := by decide +kernel
theorem d_mm_work_79 : decode b_mm_work 79 = .ok (.aload_n 0, 1) := by decide +kernel
theorem d_mm_work_80 : decode b_mm_work 80 = .ok (.iload 7, 2) := by decide +kernel
theorem d_mm_work_82 : decode b_mm_work 82 = .ok (.iload 4, 2) := by decide +kernel
theorem d_mm_work_84 : decode b_mm_work 84 = .ok (.invokevirtual 131, 3) := by decide +kernel
theorem d_mm_work_87 : decode b_mm_work 87 = .ok (.ifCond .eq 7, 3) := by decide +kernel
theorem d_mm_work_90 : decode b_mm_work 90 = .ok (.iload 7, 2) := by decide +kernel
theorem d_mm_work_92 : decode b_mm_work 92 = .ok (.istore 4, 2) := by decide +kernel
theorem d_mm_work_94 : decode b_mm_work 94 = .ok (.iinc 7 1, 3) := by decide +kernel
theorem d_mm_work_97 : decode b_mm_work 97 = .ok (.goto (-88), 3) := by decide +kernel
theorem d_mm_work_100 : decode b_mm_work 100 = .ok (.aload_n 0, 1) := by decide +kernel
theorem d_mm_work_101 : decode b_mm_work 101 = .ok (.getfield 60, 3) := by decide +kernel
theorem d_mm_work_104 : decode b_mm_work 104 = .ok (.iload_n 1, 1) := by decide +kernel
theorem d_mm_work_105 : decode b_mm_work 105 = .ok (.lload 5, 2) := by decide +kernel
theorem d_mm_work_107 : decode b_mm_work 107 = .ok (.lastore, 1) := by decide +kernel
theorem d_mm_work_108 : decode b_mm_work 108 = .ok (.aload_n 0, 1) := by decide +kernel
theorem d_mm_work_109 : decode b_mm_work 109 = .ok (.getfield 70, 3) := by decide +kernel
theorem d_mm_work_112 : decode b_mm_work 112 = .ok (.iload_n 1, 1) := by decide +kernel
theorem d_mm_work_113 : decode b_mm_work 113 = .ok (.iload 4, 2) := by decide +kernel
theorem d_mm_work_115 : decode b_mm_work 115 = .ok (.iastore, 1) := by decide +kernel
theorem d_mm_work_116 : decode b_mm_work 116 = .ok (.aload_n 0, 1) := by decide +kernel
theorem d_mm_work_117 : decode b_mm_work 117 = .ok (.getfield 64, 3) := by decide +kernel
theorem d_mm_work_120 : decode b_mm_work 120 = .ok (.iload 4, 2) := by decide +kernel
theorem d_mm_work_122 : decode b_mm_work 122 = .ok (.laload, 1) := by decide +kernel
theorem d_mm_work_123 : decode b_mm_work 123 = .ok (.lconst 1, 1) := by decide +kernel
theorem d_mm_work_124 : decode b_mm_work 124 = .ok (.iload 4, 2) := by decide +kernel
theorem d_mm_work_126 : decode b_mm_work 126 = .ok (.lshl, 1) := by decide +kernel
theorem d_mm_work_127 : decode b_mm_work 127 = .ok (.lor, 1) := by decide +kernel
theorem d_mm_work_128 : decode b_mm_work 128 = .ok (.lstore 7, 2) := by decide +kernel
theorem d_mm_work_130 : decode b_mm_work 130 = .ok (.aload_n 0, 1) := by decide +kernel
theorem d_mm_work_131 : decode b_mm_work 131 = .ok (.iload_n 1, 1) := by decide +kernel
theorem d_mm_work_132 : decode b_mm_work 132 = .ok (.invokevirtual 135, 3) := by decide +kernel
theorem d_mm_work_135 : decode b_mm_work 135 = .ok (.istore 9, 2) := by decide +kernel
theorem d_mm_work_137 : decode b_mm_work 137 = .ok (.iconst 0, 1) := by decide +kernel
theorem d_mm_work_138 : decode b_mm_work 138 = .ok (.istore 10, 2) := by decide +kernel
theorem d_mm_work_140 : decode b_mm_work 140 = .ok (.iload 10, 2) := by decide +kernel
theorem d_mm_work_142 : decode b_mm_work 142 = .ok (.iload 9, 2) := by decide +kernel
theorem d_mm_work_144 : decode b_mm_work 144 = .ok (.if_icmp .ge 42, 3) := by decide +kernel
theorem d_mm_work_147 : decode b_mm_work 147 = .ok (.aload_n 0, 1) := by decide +kernel
theorem d_mm_work_148 : decode b_mm_work 148 = .ok (.lload 7, 2) := by decide +kernel
theorem d_mm_work_150 : decode b_mm_work 150 = .ok (.lconst 1, 1) := by decide +kernel
theorem d_mm_work_151 : decode b_mm_work 151 = .ok (.aload_n 0, 1) := by decide +kernel
theorem d_mm_work_152 : decode b_mm_work 152 = .ok (.getfield 82, 3) := by decide +kernel
theorem d_mm_work_155 : decode b_mm_work 155 = .ok (.iload 10, 2) := by decide +kernel
theorem d_mm_work_157 : decode b_mm_work 157 = .ok (.iaload, 1) := by decide +kernel
theorem d_mm_work_158 : decode b_mm_work 158 = .ok (.lshl, 1) := by decide +kernel
theorem d_mm_work_159 : decode b_mm_work 159 = .ok (.lor, 1) := by decide +kernel
theorem d_mm_work_160 : decode b_mm_work 160 = .ok (.invokevirtual 139, 3) := by decide +kernel
theorem d_mm_work_163 : decode b_mm_work 163 = .ok (.ifCond .eq 17, 3) := by decide +kernel
theorem d_mm_work_166 : decode b_mm_work 166 = .ok (.lload 7, 2) := by decide +kernel
theorem d_mm_work_168 : decode b_mm_work 168 = .ok (.lconst 1, 1) := by decide +kernel
theorem d_mm_work_169 : decode b_mm_work 169 = .ok (.aload_n 0, 1) := by decide +kernel
theorem d_mm_work_170 : decode b_mm_work 170 = .ok (.getfield 82, 3) := by decide +kernel
theorem d_mm_work_173 : decode b_mm_work 173 = .ok (.iload 10, 2) := by decide +kernel
theorem d_mm_work_175 : decode b_mm_work 175 = .ok (.iaload, 1) := by decide +kernel
theorem d_mm_work_176 : decode b_mm_work 176 = .ok (.lshl, 1) := by decide +kernel
theorem d_mm_work_177 : decode b_mm_work 177 = .ok (.lor, 1) := by decide +kernel
theorem d_mm_work_178 : decode b_mm_work 178 = .ok (.lstore 7, 2) := by decide +kernel
theorem d_mm_work_180 : decode b_mm_work 180 = .ok (.iinc 10 1, 3) := by decide +kernel
theorem d_mm_work_183 : decode b_mm_work 183 = .ok (.goto (-43), 3) := by decide +kernel
theorem d_mm_work_186 : decode b_mm_work 186 = .ok (.aload_n 0, 1) := by decide +kernel
theorem d_mm_work_187 : decode b_mm_work 187 = .ok (.getfield 64, 3) := by decide +kernel
theorem d_mm_work_190 : decode b_mm_work 190 = .ok (.iload_n 1, 1) := by decide +kernel
theorem d_mm_work_191 : decode b_mm_work 191 = .ok (.lload 7, 2) := by decide +kernel
theorem d_mm_work_193 : decode b_mm_work 193 = .ok (.lastore, 1) := by decide +kernel
theorem d_mm_work_194 : decode b_mm_work 194 = .ok (.aload_n 0, 1) := by decide +kernel
theorem d_mm_work_195 : decode b_mm_work 195 = .ok (.getfield 67, 3) := by decide +kernel
theorem d_mm_work_198 : decode b_mm_work 198 = .ok (.iload_n 1, 1) := by decide +kernel
theorem d_mm_work_199 : decode b_mm_work 199 = .ok (.lload 7, 2) := by decide +kernel
theorem d_mm_work_201 : decode b_mm_work 201 = .ok (.invokestatic 143, 3) := by decide +kernel
theorem d_mm_work_204 : decode b_mm_work 204 = .ok (.iastore, 1) := by decide +kernel
theorem d_mm_work_205 : decode b_mm_work 205 = .ok (.return_, 1) := by decide +kernel
theorem d_mm_line_0 : decode b_mm_line 0 = .ok (.aload_n 0, 1) := by decide +kernel
theorem d_mm_line_1 : decode b_mm_line 1 = .ok (.getfield 56, 3) := by decide +kernel
theorem d_mm_line_4 : decode b_mm_line 4 = .ok (.invokestatic 143, 3) := by decide +kernel
theorem d_mm_line_7 : decode b_mm_line 7 = .ok (.istore_n 1, 1) := by decide +kernel
theorem d_mm_line_8 : decode b_mm_line 8 = .ok (.aload_n 0, 1) := by decide +kernel
theorem d_mm_line_9 : decode b_mm_line 9 = .ok (.iload_n 1, 1) := by decide +kernel
theorem d_mm_line_10 : decode b_mm_line 10 = .ok (.putfield 158, 3) := by decide +kernel
theorem d_mm_line_13 : decode b_mm_line 13 = .ok (.bipush 60, 2) := by decide +kernel
theorem d_mm_line_15 : decode b_mm_line 15 = .ok (.istore_n 2, 1) := by decide +kernel
theorem d_mm_line_16 : decode b_mm_line 16 = .ok (.aload_n 0, 1) := by decide +kernel
theorem d_mm_line_17 : decode b_mm_line 17 = .ok (.getfield 70, 3) := by decide +kernel
theorem d_mm_line_20 : decode b_mm_line 20 = .ok (.iload_n 2, 1) := by decide +kernel
theorem d_mm_line_21 : decode b_mm_line 21 = .ok (.iaload, 1) := by decide +kernel
theorem d_mm_line_22 : decode b_mm_line 22 = .ok (.ifCond .lt 61, 3) := by decide +kernel
theorem d_mm_line_25 : decode b_mm_line 25 = .ok (.aload_n 0, 1) := by decide +kernel
theorem d_mm_line_26 : decode b_mm_line 26 = .ok (.iload_n 2, 1) := by decide +kernel
theorem d_mm_line_27 : decode b_mm_line 27 = .ok (.invokevirtual 135, 3) := by decide +kernel
theorem d_mm_line_30 : decode b_mm_line 30 = .ok (.istore_n 3, 1) := by decide +kernel
theorem d_mm_line_31 : decode b_mm_line 31 = .ok (.iload_n 3, 1) := by decide +kernel
theorem d_mm_line_32 : decode b_mm_line 32 = .ok (.iconst 1, 1) := by decide +kernel
theorem d_mm_line_33 : decode b_mm_line 33 = .ok (.isub, 1) := by decide +kernel
theorem d_mm_line_34 : decode b_mm_line 34 = .ok (.istore 4, 2) := by decide +kernel
theorem d_mm_line_36 : decode b_mm_line 36 = .ok (.iload 4, 2) := by decide +kernel
theorem d_mm_line_38 : decode b_mm_line 38 = .ok (.ifCond .lt 25, 3) := by decide +kernel
theorem d_mm_line_41 : decode b_mm_line 41 = .ok (.iinc 1 (-1), 3) := by decide +kernel
theorem d_mm_line_44 : decode b_mm_line 44 = .ok (.aload_n 0, 1) := by decide +kernel
theorem d_mm_line_45 : decode b_mm_line 45 = .ok (.getfield 79, 3) := by decide +kernel
theorem d_mm_line_48 : decode b_mm_line 48 = .ok (.iload_n 1, 1) := by decide +kernel
theorem d_mm_line_49 : decode b_mm_line 49 = .ok (.aload_n 0, 1) := by decide +kernel
theorem d_mm_line_50 : decode b_mm_line 50 = .ok (.getfield 82, 3) := by decide +kernel
theorem d_mm_line_53 : decode b_mm_line 53 = .ok (.iload 4, 2) := by decide +kernel
theorem d_mm_line_55 : decode b_mm_line 55 = .ok (.iaload, 1) := by decide +kernel
theorem d_mm_line_56 : decode b_mm_line 56 = .ok (.iastore, 1) := by decide +kernel
theorem d_mm_line_57 : decode b_mm_line 57 = .ok (.iinc 4 (-1), 3) := by decide +kernel
theorem d_mm_line_60 : decode b_mm_line 60 = .ok (.goto (-24), 3) := by decide +kernel
theorem d_mm_line_63 : decode b_mm_line 63 = .ok (.iinc 1 (-1), 3) := by decide +kernel
theorem d_mm_line_66 : decode b_mm_line 66 = .ok (.aload_n 0, 1) := by decide +kernel
theorem d_mm_line_67 : decode b_mm_line 67 = .ok (.getfield 70, 3) := by decide +kernel
theorem d_mm_line_70 : decode b_mm_line 70 = .ok (.iload_n 2, 1) := by decide +kernel
theorem d_mm_line_71 : decode b_mm_line 71 = .ok (.iaload, 1) := by decide +kernel
theorem d_mm_line_72 : decode b_mm_line 72 = .ok (.istore_n 2, 1) := by decide +kernel
theorem d_mm_line_73 : decode b_mm_line 73 = .ok (.aload_n 0, 1) := by decide +kernel
theorem d_mm_line_74 : decode b_mm_line 74 = .ok (.getfield 79, 3) := by decide +kernel
theorem d_mm_line_77 : decode b_mm_line 77 = .ok (.iload_n 1, 1) := by decide +kernel
theorem d_mm_line_78 : decode b_mm_line 78 = .ok (.iload_n 2, 1) := by decide +kernel
theorem d_mm_line_79 : decode b_mm_line 79 = .ok (.iastore, 1) := by decide +kernel
theorem d_mm_line_80 : decode b_mm_line 80 = .ok (.goto (-64), 3) := by decide +kernel
theorem d_mm_line_83 : decode b_mm_line 83 = .ok (.return_, 1) := by decide +kernel
theorem d_mm_there_0 : decode b_mm_there 0 = .ok (.iload_n 1, 1) := by decide +kernel
theorem d_mm_there_1 : decode b_mm_there 1 = .ok (.bipush 100, 2) := by decide +kernel
theorem d_mm_there_3 : decode b_mm_there 3 = .ok (.if_icmp .ge 16, 3) := by decide +kernel
theorem d_mm_there_6 : decode b_mm_there 6 = .ok (.aload_n 0, 1) := by decide +kernel
theorem d_mm_there_7 : decode b_mm_there 7 = .ok (.getfield 89, 3) := by decide +kernel
theorem d_mm_there_10 : decode b_mm_there 10 = .ok (.iconst 2, 1) := by decide +kernel
theorem d_mm_there_11 : decode b_mm_there 11 = .ok (.iload_n 1, 1) := by decide +kernel
theorem d_mm_there_12 : decode b_mm_there 12 = .ok (.imul, 1) := by decide +kernel
theorem d_mm_there_13 : decode b_mm_there 13 = .ok (.iload_n 2, 1) := by decide +kernel
theorem d_mm_there_14 : decode b_mm_there 14 = .ok (.iadd, 1) := by decide +kernel
theorem d_mm_there_15 : decode b_mm_there 15 = .ok (.baload, 1) := by decide +kernel
theorem d_mm_there_16 : decode b_mm_there 16 = .ok (.goto 24, 3) := by decide +kernel
theorem d_mm_there_19 : decode b_mm_there 19 = .ok (.iload_n 2, 1) := by decide +kernel
theorem d_mm_there_20 : decode b_mm_there 20 = .ok (.ifCond .ne 19, 3) := by decide +kernel
theorem d_mm_there_23 : decode b_mm_there 23 = .ok (.aload_n 0, 1) := by decide +kernel
theorem d_mm_there_24 : decode b_mm_there 24 = .ok (.getfield 92, 3) := by decide +kernel
theorem d_mm_there_27 : decode b_mm_there 27 = .ok (.iload_n 1, 1) := by decide +kernel
theorem d_mm_there_28 : decode b_mm_there 28 = .ok (.bipush 100, 2) := by decide +kernel
theorem d_mm_there_30 : decode b_mm_there 30 = .ok (.isub, 1) := by decide +kernel
theorem d_mm_there_31 : decode b_mm_there 31 = .ok (.baload, 1) := by decide +kernel
theorem d_mm_there_32 : decode b_mm_there 32 = .ok (.ifCond .eq 7, 3) := by decide +kernel
theorem d_mm_there_35 : decode b_mm_there 35 = .ok (.iconst 1, 1) := by decide +kernel
theorem d_mm_there_36 : decode b_mm_there 36 = .ok (.goto 4, 3) := by decide +kernel
theorem d_mm_there_39 : decode b_mm_there 39 = .ok (.iconst 0, 1) := by decide +kernel
theorem d_mm_there_40 : decode b_mm_there 40 = .ok (.ireturn, 1) := by decide +kernel
theorem d_mm_lockOf_0 : decode b_mm_lockOf 0 = .ok (.iload_n 1, 1) := by decide +kernel
theorem d_mm_lockOf_1 : decode b_mm_lockOf 1 = .ok (.bipush 100, 2) := by decide +kernel
theorem d_mm_lockOf_3 : decode b_mm_lockOf 3 = .ok (.if_icmp .ge 16, 3) := by decide +kernel
theorem d_mm_lockOf_6 : decode b_mm_lockOf 6 = .ok (.aload_n 0, 1) := by decide +kernel
theorem d_mm_lockOf_7 : decode b_mm_lockOf 7 = .ok (.getfield 25, 3) := by decide +kernel
theorem d_mm_lockOf_10 : decode b_mm_lockOf 10 = .ok (.iconst 2, 1) := by decide +kernel
theorem d_mm_lockOf_11 : decode b_mm_lockOf 11 = .ok (.iload_n 1, 1) := by decide +kernel
theorem d_mm_lockOf_12 : decode b_mm_lockOf 12 = .ok (.imul, 1) := by decide +kernel
theorem d_mm_lockOf_13 : decode b_mm_lockOf 13 = .ok (.iload_n 2, 1) := by decide +kernel
theorem d_mm_lockOf_14 : decode b_mm_lockOf 14 = .ok (.iadd, 1) := by decide +kernel
theorem d_mm_lockOf_15 : decode b_mm_lockOf 15 = .ok (.iaload, 1) := by decide +kernel
theorem d_mm_lockOf_16 : decode b_mm_lockOf 16 = .ok (.goto 12, 3) := by decide +kernel
theorem d_mm_lockOf_19 : decode b_mm_lockOf 19 = .ok (.aload_n 0, 1) := by decide +kernel
theorem d_mm_lockOf_20 : decode b_mm_lockOf 20 = .ok (.getfield 50, 3) := by decide +kernel
theorem d_mm_lockOf_23 : decode b_mm_lockOf 23 = .ok (.iload_n 1, 1) := by decide +kernel
theorem d_mm_lockOf_24 : decode b_mm_lockOf 24 = .ok (.bipush 100, 2) := by decide +kernel
theorem d_mm_lockOf_26 : decode b_mm_lockOf 26 = .ok (.isub, 1) := by decide +kernel
theorem d_mm_lockOf_27 : decode b_mm_lockOf 27 = .ok (.iaload, 1) := by decide +kernel
theorem d_mm_lockOf_28 : decode b_mm_lockOf 28 = .ok (.ireturn, 1) := by decide +kernel
theorem d_mm_worthOf_0 : decode b_mm_worthOf 0 = .ok (.iload_n 1, 1) := by decide +kernel
theorem d_mm_worthOf_1 : decode b_mm_worthOf 1 = .ok (.bipush 100, 2) := by decide +kernel
theorem d_mm_worthOf_3 : decode b_mm_worthOf 3 = .ok (.if_icmp .ge 16, 3) := by decide +kernel
theorem d_mm_worthOf_6 : decode b_mm_worthOf 6 = .ok (.aload_n 0, 1) := by decide +kernel
theorem d_mm_worthOf_7 : decode b_mm_worthOf 7 = .ok (.getfield 28, 3) := by decide +kernel
theorem d_mm_worthOf_10 : decode b_mm_worthOf 10 = .ok (.iconst 2, 1) := by decide +kernel
theorem d_mm_worthOf_11 : decode b_mm_worthOf 11 = .ok (.iload_n 1, 1) := by decide +kernel
theorem d_mm_worthOf_12 : decode b_mm_worthOf 12 = .ok (.imul, 1) := by decide +kernel
theorem d_mm_worthOf_13 : decode b_mm_worthOf 13 = .ok (.iload_n 2, 1) := by decide +kernel
theorem d_mm_worthOf_14 : decode b_mm_worthOf 14 = .ok (.iadd, 1) := by decide +kernel
theorem d_mm_worthOf_15 : decode b_mm_worthOf 15 = .ok (.iaload, 1) := by decide +kernel
theorem d_mm_worthOf_16 : decode b_mm_worthOf 16 = .ok (.goto 12, 3) := by decide +kernel
theorem d_mm_worthOf_19 : decode b_mm_worthOf 19 = .ok (.aload_n 0, 1) := by decide +kernel
theorem d_mm_worthOf_20 : decode b_mm_worthOf 20 = .ok (.getfield 95, 3) := by decide +kernel
theorem d_mm_worthOf_23 : decode b_mm_worthOf 23 = .ok (.iload_n 1, 1) := by decide +kernel
theorem d_mm_worthOf_24 : decode b_mm_worthOf 24 = .ok (.bipush 100, 2) := by decide +kernel
theorem d_mm_worthOf_26 : decode b_mm_worthOf 26 = .ok (.isub, 1) := by decide +kernel
theorem d_mm_worthOf_27 : decode b_mm_worthOf 27 = .ok (.iaload, 1) := by decide +kernel
theorem d_mm_worthOf_28 : decode b_mm_worthOf 28 = .ok (.ireturn, 1) := by decide +kernel
theorem d_mm_over_0 : decode b_mm_over 0 = .ok (.iconst 0, 1) := by decide +kernel
theorem d_mm_over_1 : decode b_mm_over 1 = .ok (.istore_n 2, 1) := by decide +kernel
theorem d_mm_over_2 : decode b_mm_over 2 = .ok (.iconst 0, 1) := by decide +kernel
theorem d_mm_over_3 : decode b_mm_over 3 = .ok (.istore_n 3, 1) := by decide +kernel
theorem d_mm_over_4 : decode b_mm_over 4 = .ok (.iload_n 3, 1) := by decide +kernel
theorem d_mm_over_5 : decode b_mm_over 5 = .ok (.aload_n 0, 1) := by decide +kernel
theorem d_mm_over_6 : decode b_mm_over 6 = .ok (.getfield 7, 3) := by decide +kernel
theorem d_mm_over_9 : decode b_mm_over 9 = .ok (.iload_n 1, 1) := by decide +kernel
theorem d_mm_over_10 : decode b_mm_over 10 = .ok (.iaload, 1) := by decide +kernel
theorem d_mm_over_11 : decode b_mm_over 11 = .ok (.if_icmp .ge 36, 3) := by decide +kernel
theorem d_mm_over_14 : decode b_mm_over 14 = .ok (.iload_n 2, 1) := by decide +kernel
theorem d_mm_over_15 : decode b_mm_over 15 = .ok (.aload_n 0, 1) := by decide +kernel
theorem d_mm_over_16 : decode b_mm_over 16 = .ok (.aload_n 0, 1) := by decide +kernel
theorem d_mm_over_17 : decode b_mm_over 17 = .ok (.getfield 16, 3) := by decide +kernel
theorem d_mm_over_20 : decode b_mm_over 20 = .ok (.iconst 2, 1) := by decide +kernel
theorem d_mm_over_21 : decode b_mm_over 21 = .ok (.iload_n 1, 1) := by decide +kernel
theorem d_mm_over_22 : decode b_mm_over 22 = .ok (.imul, 1) := by decide +kernel
theorem d_mm_over_23 : decode b_mm_over 23 = .ok (.iload_n 3, 1) := by decide +kernel
theorem d_mm_over_24 : decode b_mm_over 24 = .ok (.iadd, 1) := by decide +kernel
theorem d_mm_over_25 : decode b_mm_over 25 = .ok (.iaload, 1) := by decide +kernel
theorem d_mm_over_26 : decode b_mm_over 26 = .ok (.aload_n 0, 1) := by decide +kernel
theorem d_mm_over_27 : decode b_mm_over 27 = .ok (.getfield 19, 3) := by decide +kernel
theorem d_mm_over_30 : decode b_mm_over 30 = .ok (.iconst 2, 1) := by decide +kernel
theorem d_mm_over_31 : decode b_mm_over 31 = .ok (.iload_n 1, 1) := by decide +kernel
theorem d_mm_over_32 : decode b_mm_over 32 = .ok (.imul, 1) := by decide +kernel
theorem d_mm_over_33 : decode b_mm_over 33 = .ok (.iload_n 3, 1) := by decide +kernel
theorem d_mm_over_34 : decode b_mm_over 34 = .ok (.iadd, 1) := by decide +kernel
theorem d_mm_over_35 : decode b_mm_over 35 = .ok (.iaload, 1) := by decide +kernel
theorem d_mm_over_36 : decode b_mm_over 36 = .ok (.invokevirtual 171, 3) := by decide +kernel
theorem d_mm_over_39 : decode b_mm_over 39 = .ok (.iadd, 1) := by decide +kernel
theorem d_mm_over_40 : decode b_mm_over 40 = .ok (.istore_n 2, 1) := by decide +kernel
theorem d_mm_over_41 : decode b_mm_over 41 = .ok (.iinc 3 1, 3) := by decide +kernel
theorem d_mm_over_44 : decode b_mm_over 44 = .ok (.goto (-40), 3) := by decide +kernel
theorem d_mm_over_47 : decode b_mm_over 47 = .ok (.iconst 0, 1) := by decide +kernel
theorem d_mm_over_48 : decode b_mm_over 48 = .ok (.istore_n 3, 1) := by decide +kernel
theorem d_mm_over_49 : decode b_mm_over 49 = .ok (.iload_n 3, 1) := by decide +kernel
theorem d_mm_over_50 : decode b_mm_over 50 = .ok (.aload_n 0, 1) := by decide +kernel
theorem d_mm_over_51 : decode b_mm_over 51 = .ok (.getfield 13, 3) := by decide +kernel
theorem d_mm_over_54 : decode b_mm_over 54 = .ok (.iload_n 1, 1) := by decide +kernel
theorem d_mm_over_55 : decode b_mm_over 55 = .ok (.iaload, 1) := by decide +kernel
theorem d_mm_over_56 : decode b_mm_over 56 = .ok (.if_icmp .ge 22, 3) := by decide +kernel
theorem d_mm_over_59 : decode b_mm_over 59 = .ok (.iload_n 2, 1) := by decide +kernel
theorem d_mm_over_60 : decode b_mm_over 60 = .ok (.aload_n 0, 1) := by decide +kernel
theorem d_mm_over_61 : decode b_mm_over 61 = .ok (.getfield 28, 3) := by decide +kernel
theorem d_mm_over_64 : decode b_mm_over 64 = .ok (.iconst 2, 1) := by decide +kernel
theorem d_mm_over_65 : decode b_mm_over 65 = .ok (.iload_n 1, 1) := by decide +kernel
theorem d_mm_over_66 : decode b_mm_over 66 = .ok (.imul, 1) := by decide +kernel
theorem d_mm_over_67 : decode b_mm_over 67 = .ok (.iload_n 3, 1) := by decide +kernel
theorem d_mm_over_68 : decode b_mm_over 68 = .ok (.iadd, 1) := by decide +kernel
theorem d_mm_over_69 : decode b_mm_over 69 = .ok (.iaload, 1) := by decide +kernel
theorem d_mm_over_70 : decode b_mm_over 70 = .ok (.isub, 1) := by decide +kernel
theorem d_mm_over_71 : decode b_mm_over 71 = .ok (.istore_n 2, 1) := by decide +kernel
theorem d_mm_over_72 : decode b_mm_over 72 = .ok (.iinc 3 1, 3) := by decide +kernel
theorem d_mm_over_75 : decode b_mm_over 75 = .ok (.goto (-26), 3) := by decide +kernel
theorem d_mm_over_78 : decode b_mm_over 78 = .ok (.iload_n 2, 1) := by decide +kernel
theorem d_mm_over_79 : decode b_mm_over 79 = .ok (.ireturn, 1) := by decide +kernel
theorem d_mm_fits_0 : decode b_mm_fits 0 = .ok (.aload_n 0, 1) := by decide +kernel
theorem d_mm_fits_1 : decode b_mm_fits 1 = .ok (.getfield 85, 3) := by decide +kernel
theorem d_mm_fits_4 : decode b_mm_fits 4 = .ok (.iload_n 1, 1) := by decide +kernel
theorem d_mm_fits_5 : decode b_mm_fits 5 = .ok (.baload, 1) := by decide +kernel
theorem d_mm_fits_6 : decode b_mm_fits 6 = .ok (.ifCond .eq 5, 3) := by decide +kernel
theorem d_mm_fits_9 : decode b_mm_fits 9 = .ok (.iconst 0, 1) := by decide +kernel
theorem d_mm_fits_10 : decode b_mm_fits 10 = .ok (.ireturn, 1) := by decide +kernel
theorem d_mm_fits_11 : decode b_mm_fits 11 = .ok (.iconst 0, 1) := by decide +kernel
theorem d_mm_fits_12 : decode b_mm_fits 12 = .ok (.istore_n 2, 1) := by decide +kernel
theorem d_mm_fits_13 : decode b_mm_fits 13 = .ok (.iload_n 2, 1) := by decide +kernel
theorem d_mm_fits_14 : decode b_mm_fits 14 = .ok (.aload_n 0, 1) := by decide +kernel
theorem d_mm_fits_15 : decode b_mm_fits 15 = .ok (.getfield 7, 3) := by decide +kernel
theorem d_mm_fits_18 : decode b_mm_fits 18 = .ok (.iload_n 1, 1) := by decide +kernel
theorem d_mm_fits_19 : decode b_mm_fits 19 = .ok (.iaload, 1) := by decide +kernel
theorem d_mm_fits_20 : decode b_mm_fits 20 = .ok (.if_icmp .ge 69, 3) := by decide +kernel
theorem d_mm_fits_23 : decode b_mm_fits 23 = .ok (.aload_n 0, 1) := by decide +kernel
theorem d_mm_fits_24 : decode b_mm_fits 24 = .ok (.getfield 16, 3) := by decide +kernel
theorem d_mm_fits_27 : decode b_mm_fits 27 = .ok (.iconst 2, 1) := by decide +kernel
theorem d_mm_fits_28 : decode b_mm_fits 28 = .ok (.iload_n 1, 1) := by decide +kernel
theorem d_mm_fits_29 : decode b_mm_fits 29 = .ok (.imul, 1) := by decide +kernel
theorem d_mm_fits_30 : decode b_mm_fits 30 = .ok (.iload_n 2, 1) := by decide +kernel
theorem d_mm_fits_31 : decode b_mm_fits 31 = .ok (.iadd, 1) := by decide +kernel
theorem d_mm_fits_32 : decode b_mm_fits 32 = .ok (.iaload, 1) := by decide +kernel
theorem d_mm_fits_33 : decode b_mm_fits 33 = .ok (.istore_n 3, 1) := by decide +kernel
theorem d_mm_fits_34 : decode b_mm_fits 34 = .ok (.aload_n 0, 1) := by decide +kernel
theorem d_mm_fits_35 : decode b_mm_fits 35 = .ok (.getfield 19, 3) := by decide +kernel
theorem d_mm_fits_38 : decode b_mm_fits 38 = .ok (.iconst 2, 1) := by decide +kernel
theorem d_mm_fits_39 : decode b_mm_fits 39 = .ok (.iload_n 1, 1) := by decide +kernel
theorem d_mm_fits_40 : decode b_mm_fits 40 = .ok (.imul, 1) := by decide +kernel
theorem d_mm_fits_41 : decode b_mm_fits 41 = .ok (.iload_n 2, 1) := by decide +kernel
theorem d_mm_fits_42 : decode b_mm_fits 42 = .ok (.iadd, 1) := by decide +kernel
theorem d_mm_fits_43 : decode b_mm_fits 43 = .ok (.iaload, 1) := by decide +kernel
theorem d_mm_fits_44 : decode b_mm_fits 44 = .ok (.istore 4, 2) := by decide +kernel
theorem d_mm_fits_46 : decode b_mm_fits 46 = .ok (.aload_n 0, 1) := by decide +kernel
theorem d_mm_fits_47 : decode b_mm_fits 47 = .ok (.iload_n 3, 1) := by decide +kernel
theorem d_mm_fits_48 : decode b_mm_fits 48 = .ok (.iload 4, 2) := by decide +kernel
theorem d_mm_fits_50 : decode b_mm_fits 50 = .ok (.invokevirtual 174, 3) := by decide +kernel
theorem d_mm_fits_53 : decode b_mm_fits 53 = .ok (.ifCond .eq 28, 3) := by decide +kernel
theorem d_mm_fits_56 : decode b_mm_fits 56 = .ok (.aload_n 0, 1) := by decide +kernel
theorem d_mm_fits_57 : decode b_mm_fits 57 = .ok (.iload_n 3, 1) := by decide +kernel
theorem d_mm_fits_58 : decode b_mm_fits 58 = .ok (.iload 4, 2) := by decide +kernel
theorem d_mm_fits_60 : decode b_mm_fits 60 = .ok (.invokevirtual 177, 3) := by decide +kernel
theorem d_mm_fits_63 : decode b_mm_fits 63 = .ok (.bipush 7, 2) := by decide +kernel
theorem d_mm_fits_65 : decode b_mm_fits 65 = .ok (.aload_n 0, 1) := by decide +kernel
theorem d_mm_fits_66 : decode b_mm_fits 66 = .ok (.getfield 22, 3) := by decide +kernel
theorem d_mm_fits_69 : decode b_mm_fits 69 = .ok (.iconst 2, 1) := by decide +kernel
theorem d_mm_fits_70 : decode b_mm_fits 70 = .ok (.iload_n 1, 1) := by decide +kernel
theorem d_mm_fits_71 : decode b_mm_fits 71 = .ok (.imul, 1) := by decide +kernel
theorem d_mm_fits_72 : decode b_mm_fits 72 = .ok (.iload_n 2, 1) := by decide +kernel
theorem d_mm_fits_73 : decode b_mm_fits 73 = .ok (.iadd, 1) := by decide +kernel
theorem d_mm_fits_74 : decode b_mm_fits 74 = .ok (.iaload, 1) := by decide +kernel
theorem d_mm_fits_75 : decode b_mm_fits 75 = .ok (.invokestatic 101, 3) := by decide +kernel
theorem d_mm_fits_78 : decode b_mm_fits 78 = .ok (.if_icmp .eq 5, 3) := by decide +kernel
theorem d_mm_fits_81 : decode b_mm_fits 81 = .ok (.iconst 0, 1) := by decide +kernel
theorem d_mm_fits_82 : decode b_mm_fits 82 = .ok (.ireturn, 1) := by decide +kernel
theorem d_mm_fits_83 : decode b_mm_fits 83 = .ok (.iinc 2 1, 3) := by decide +kernel
theorem d_mm_fits_86 : decode b_mm_fits 86 = .ok (.goto (-73), 3) := by decide +kernel
theorem d_mm_fits_89 : decode b_mm_fits 89 = .ok (.aload_n 0, 1) := by decide +kernel
theorem d_mm_fits_90 : decode b_mm_fits 90 = .ok (.getfield 7, 3) := by decide +kernel
theorem d_mm_fits_93 : decode b_mm_fits 93 = .ok (.iload_n 1, 1) := by decide +kernel
theorem d_mm_fits_94 : decode b_mm_fits 94 = .ok (.iaload, 1) := by decide +kernel
theorem d_mm_fits_95 : decode b_mm_fits 95 = .ok (.iconst 2, 1) := by decide +kernel
theorem d_mm_fits_96 : decode b_mm_fits 96 = .ok (.if_icmp .ne 49, 3) := by decide +kernel
theorem d_mm_fits_99 : decode b_mm_fits 99 = .ok (.aload_n 0, 1) := by decide +kernel
theorem d_mm_fits_100 : decode b_mm_fits 100 = .ok (.getfield 16, 3) := by decide +kernel
theorem d_mm_fits_103 : decode b_mm_fits 103 = .ok (.iconst 2, 1) := by decide +kernel
theorem d_mm_fits_104 : decode b_mm_fits 104 = .ok (.iload_n 1, 1) := by decide +kernel
theorem d_mm_fits_105 : decode b_mm_fits 105 = .ok (.imul, 1) := by decide +kernel
theorem d_mm_fits_106 : decode b_mm_fits 106 = .ok (.iaload, 1) := by decide +kernel
theorem d_mm_fits_107 : decode b_mm_fits 107 = .ok (.aload_n 0, 1) := by decide +kernel
theorem d_mm_fits_108 : decode b_mm_fits 108 = .ok (.getfield 16, 3) := by decide +kernel
