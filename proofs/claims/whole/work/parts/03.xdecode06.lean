theorem d_mm_fits_111 : decode b_mm_fits 111 = .ok (.iconst 2, 1) := by decide +kernel
theorem d_mm_fits_112 : decode b_mm_fits 112 = .ok (.iload_n 1, 1) := by decide +kernel
theorem d_mm_fits_113 : decode b_mm_fits 113 = .ok (.imul, 1) := by decide +kernel
theorem d_mm_fits_114 : decode b_mm_fits 114 = .ok (.iconst 1, 1) := by decide +kernel
theorem d_mm_fits_115 : decode b_mm_fits 115 = .ok (.iadd, 1) := by decide +kernel
theorem d_mm_fits_116 : decode b_mm_fits 116 = .ok (.iaload, 1) := by decide +kernel
theorem d_mm_fits_117 : decode b_mm_fits 117 = .ok (.if_icmp .ne 28, 3) := by decide +kernel
theorem d_mm_fits_120 : decode b_mm_fits 120 = .ok (.aload_n 0, 1) := by decide +kernel
theorem d_mm_fits_121 : decode b_mm_fits 121 = .ok (.getfield 19, 3) := by decide +kernel
theorem d_mm_fits_124 : decode b_mm_fits 124 = .ok (.iconst 2, 1) := by decide +kernel
theorem d_mm_fits_125 : decode b_mm_fits 125 = .ok (.iload_n 1, 1) := by decide +kernel
theorem d_mm_fits_126 : decode b_mm_fits 126 = .ok (.imul, 1) := by decide +kernel
theorem d_mm_fits_127 : decode b_mm_fits 127 = .ok (.iaload, 1) := by decide +kernel
theorem d_mm_fits_128 : decode b_mm_fits 128 = .ok (.aload_n 0, 1) := by decide +kernel
theorem d_mm_fits_129 : decode b_mm_fits 129 = .ok (.getfield 19, 3) := by decide +kernel
theorem d_mm_fits_132 : decode b_mm_fits 132 = .ok (.iconst 2, 1) := by decide +kernel
theorem d_mm_fits_133 : decode b_mm_fits 133 = .ok (.iload_n 1, 1) := by decide +kernel
theorem d_mm_fits_134 : decode b_mm_fits 134 = .ok (.imul, 1) := by decide +kernel
theorem d_mm_fits_135 : decode b_mm_fits 135 = .ok (.iconst 1, 1) := by decide +kernel
theorem d_mm_fits_136 : decode b_mm_fits 136 = .ok (.iadd, 1) := by decide +kernel
theorem d_mm_fits_137 : decode b_mm_fits 137 = .ok (.iaload, 1) := by decide +kernel
theorem d_mm_fits_138 : decode b_mm_fits 138 = .ok (.if_icmp .ne 7, 3) := by decide +kernel
theorem d_mm_fits_141 : decode b_mm_fits 141 = .ok (.iconst 1, 1) := by decide +kernel
theorem d_mm_fits_142 : decode b_mm_fits 142 = .ok (.goto 4, 3) := by decide +kernel
theorem d_mm_fits_145 : decode b_mm_fits 145 = .ok (.iconst 0, 1) := by decide +kernel
theorem d_mm_fits_146 : decode b_mm_fits 146 = .ok (.istore_n 2, 1) := by decide +kernel
theorem d_mm_fits_147 : decode b_mm_fits 147 = .ok (.iload_n 2, 1) := by decide +kernel
theorem d_mm_fits_148 : decode b_mm_fits 148 = .ok (.ifCond .ne 15, 3) := by decide +kernel
theorem d_mm_fits_151 : decode b_mm_fits 151 = .ok (.aload_n 0, 1) := by decide +kernel
theorem d_mm_fits_152 : decode b_mm_fits 152 = .ok (.iload_n 1, 1) := by decide +kernel
theorem d_mm_fits_153 : decode b_mm_fits 153 = .ok (.invokevirtual 180, 3) := by decide +kernel
theorem d_mm_fits_156 : decode b_mm_fits 156 = .ok (.ifCond .lt 7, 3) := by decide +kernel
theorem d_mm_fits_159 : decode b_mm_fits 159 = .ok (.iconst 1, 1) := by decide +kernel
theorem d_mm_fits_160 : decode b_mm_fits 160 = .ok (.goto 4, 3) := by decide +kernel
theorem d_mm_fits_163 : decode b_mm_fits 163 = .ok (.iconst 0, 1) := by decide +kernel
theorem d_mm_fits_164 : decode b_mm_fits 164 = .ok (.ireturn, 1) := by decide +kernel
theorem d_mm_take_0 : decode b_mm_take 0 = .ok (.aload_n 0, 1) := by decide +kernel
theorem d_mm_take_1 : decode b_mm_take 1 = .ok (.iload_n 1, 1) := by decide +kernel
theorem d_mm_take_2 : decode b_mm_take 2 = .ok (.invokevirtual 180, 3) := by decide +kernel
theorem d_mm_take_5 : decode b_mm_take 5 = .ok (.istore_n 2, 1) := by decide +kernel
theorem d_mm_take_6 : decode b_mm_take 6 = .ok (.aload_n 0, 1) := by decide +kernel
theorem d_mm_take_7 : decode b_mm_take 7 = .ok (.getfield 85, 3) := by decide +kernel
theorem d_mm_take_10 : decode b_mm_take 10 = .ok (.iload_n 1, 1) := by decide +kernel
theorem d_mm_take_11 : decode b_mm_take 11 = .ok (.iconst 1, 1) := by decide +kernel
theorem d_mm_take_12 : decode b_mm_take 12 = .ok (.bastore, 1) := by decide +kernel
theorem d_mm_take_13 : decode b_mm_take 13 = .ok (.iconst 0, 1) := by decide +kernel
theorem d_mm_take_14 : decode b_mm_take 14 = .ok (.istore_n 3, 1) := by decide +kernel
theorem d_mm_take_15 : decode b_mm_take 15 = .ok (.iload_n 3, 1) := by decide +kernel
theorem d_mm_take_16 : decode b_mm_take 16 = .ok (.aload_n 0, 1) := by decide +kernel
theorem d_mm_take_17 : decode b_mm_take 17 = .ok (.getfield 7, 3) := by decide +kernel
theorem d_mm_take_20 : decode b_mm_take 20 = .ok (.iload_n 1, 1) := by decide +kernel
theorem d_mm_take_21 : decode b_mm_take 21 = .ok (.iaload, 1) := by decide +kernel
theorem d_mm_take_22 : decode b_mm_take 22 = .ok (.if_icmp .ge 63, 3) := by decide +kernel
theorem d_mm_take_25 : decode b_mm_take 25 = .ok (.aload_n 0, 1) := by decide +kernel
theorem d_mm_take_26 : decode b_mm_take 26 = .ok (.getfield 16, 3) := by decide +kernel
theorem d_mm_take_29 : decode b_mm_take 29 = .ok (.iconst 2, 1) := by decide +kernel
theorem d_mm_take_30 : decode b_mm_take 30 = .ok (.iload_n 1, 1) := by decide +kernel
theorem d_mm_take_31 : decode b_mm_take 31 = .ok (.imul, 1) := by decide +kernel
theorem d_mm_take_32 : decode b_mm_take 32 = .ok (.iload_n 3, 1) := by decide +kernel
theorem d_mm_take_33 : decode b_mm_take 33 = .ok (.iadd, 1) := by decide +kernel
theorem d_mm_take_34 : decode b_mm_take 34 = .ok (.iaload, 1) := by decide +kernel
theorem d_mm_take_35 : decode b_mm_take 35 = .ok (.istore 4, 2) := by decide +kernel
theorem d_mm_take_37 : decode b_mm_take 37 = .ok (.iload 4, 2) := by decide +kernel
theorem d_mm_take_39 : decode b_mm_take 39 = .ok (.bipush 100, 2) := by decide +kernel
theorem d_mm_take_41 : decode b_mm_take 41 = .ok (.if_icmp .ge 27, 3) := by decide +kernel
theorem d_mm_take_44 : decode b_mm_take 44 = .ok (.aload_n 0, 1) := by decide +kernel
theorem d_mm_take_45 : decode b_mm_take 45 = .ok (.getfield 89, 3) := by decide +kernel
theorem d_mm_take_48 : decode b_mm_take 48 = .ok (.iconst 2, 1) := by decide +kernel
theorem d_mm_take_49 : decode b_mm_take 49 = .ok (.iload 4, 2) := by decide +kernel
theorem d_mm_take_51 : decode b_mm_take 51 = .ok (.imul, 1) := by decide +kernel
theorem d_mm_take_52 : decode b_mm_take 52 = .ok (.aload_n 0, 1) := by decide +kernel
theorem d_mm_take_53 : decode b_mm_take 53 = .ok (.getfield 19, 3) := by decide +kernel
theorem d_mm_take_56 : decode b_mm_take 56 = .ok (.iconst 2, 1) := by decide +kernel
theorem d_mm_take_57 : decode b_mm_take 57 = .ok (.iload_n 1, 1) := by decide +kernel
theorem d_mm_take_58 : decode b_mm_take 58 = .ok (.imul, 1) := by decide +kernel
theorem d_mm_take_59 : decode b_mm_take 59 = .ok (.iload_n 3, 1) := by decide +kernel
theorem d_mm_take_60 : decode b_mm_take 60 = .ok (.iadd, 1) := by decide +kernel
theorem d_mm_take_61 : decode b_mm_take 61 = .ok (.iaload, 1) := by decide +kernel
theorem d_mm_take_62 : decode b_mm_take 62 = .ok (.iadd, 1) := by decide +kernel
theorem d_mm_take_63 : decode b_mm_take 63 = .ok (.iconst 0, 1) := by decide +kernel
theorem d_mm_take_64 : decode b_mm_take 64 = .ok (.bastore, 1) := by decide +kernel
theorem d_mm_take_65 : decode b_mm_take 65 = .ok (.goto 14, 3) := by decide +kernel
theorem d_mm_take_68 : decode b_mm_take 68 = .ok (.aload_n 0, 1) := by decide +kernel
theorem d_mm_take_69 : decode b_mm_take 69 = .ok (.getfield 92, 3) := by decide +kernel
theorem d_mm_take_72 : decode b_mm_take 72 = .ok (.iload 4, 2) := by decide +kernel
theorem d_mm_take_74 : decode b_mm_take 74 = .ok (.bipush 100, 2) := by decide +kernel
theorem d_mm_take_76 : decode b_mm_take 76 = .ok (.isub, 1) := by decide +kernel
theorem d_mm_take_77 : decode b_mm_take 77 = .ok (.iconst 0, 1) := by decide +kernel
theorem d_mm_take_78 : decode b_mm_take 78 = .ok (.bastore, 1) := by decide +kernel
theorem d_mm_take_79 : decode b_mm_take 79 = .ok (.iinc 3 1, 3) := by decide +kernel
theorem d_mm_take_82 : decode b_mm_take 82 = .ok (.goto (-67), 3) := by decide +kernel
theorem d_mm_take_85 : decode b_mm_take 85 = .ok (.iconst 0, 1) := by decide +kernel
theorem d_mm_take_86 : decode b_mm_take 86 = .ok (.istore_n 3, 1) := by decide +kernel
theorem d_mm_take_87 : decode b_mm_take 87 = .ok (.iload_n 3, 1) := by decide +kernel
theorem d_mm_take_88 : decode b_mm_take 88 = .ok (.aload_n 0, 1) := by decide +kernel
theorem d_mm_take_89 : decode b_mm_take 89 = .ok (.getfield 13, 3) := by decide +kernel
theorem d_mm_take_92 : decode b_mm_take 92 = .ok (.iload_n 1, 1) := by decide +kernel
theorem d_mm_take_93 : decode b_mm_take 93 = .ok (.iaload, 1) := by decide +kernel
theorem d_mm_take_94 : decode b_mm_take 94 = .ok (.if_icmp .ge 20, 3) := by decide +kernel
theorem d_mm_take_97 : decode b_mm_take 97 = .ok (.aload_n 0, 1) := by decide +kernel
theorem d_mm_take_98 : decode b_mm_take 98 = .ok (.getfield 89, 3) := by decide +kernel
theorem d_mm_take_101 : decode b_mm_take 101 = .ok (.iconst 2, 1) := by decide +kernel
theorem d_mm_take_102 : decode b_mm_take 102 = .ok (.iload_n 1, 1) := by decide +kernel
theorem d_mm_take_103 : decode b_mm_take 103 = .ok (.imul, 1) := by decide +kernel
theorem d_mm_take_104 : decode b_mm_take 104 = .ok (.iload_n 3, 1) := by decide +kernel
theorem d_mm_take_105 : decode b_mm_take 105 = .ok (.iadd, 1) := by decide +kernel
theorem d_mm_take_106 : decode b_mm_take 106 = .ok (.iconst 1, 1) := by decide +kernel
theorem d_mm_take_107 : decode b_mm_take 107 = .ok (.bastore, 1) := by decide +kernel
theorem d_mm_take_108 : decode b_mm_take 108 = .ok (.iinc 3 1, 3) := by decide +kernel
theorem d_mm_take_111 : decode b_mm_take 111 = .ok (.goto (-24), 3) := by decide +kernel
theorem d_mm_take_114 : decode b_mm_take 114 = .ok (.iload_n 2, 1) := by decide +kernel
theorem d_mm_take_115 : decode b_mm_take 115 = .ok (.ireturn, 1) := by decide +kernel
theorem d_mm_pay_0 : decode b_mm_pay 0 = .ok (.iconst 0, 1) := by decide +kernel
theorem d_mm_pay_1 : decode b_mm_pay 1 = .ok (.istore_n 2, 1) := by decide +kernel
theorem d_mm_pay_2 : decode b_mm_pay 2 = .ok (.iconst 0, 1) := by decide +kernel
theorem d_mm_pay_3 : decode b_mm_pay 3 = .ok (.istore_n 3, 1) := by decide +kernel
theorem d_mm_pay_4 : decode b_mm_pay 4 = .ok (.iload_n 3, 1) := by decide +kernel
theorem d_mm_pay_5 : decode b_mm_pay 5 = .ok (.aload_n 0, 1) := by decide +kernel
theorem d_mm_pay_6 : decode b_mm_pay 6 = .ok (.getfield 44, 3) := by decide +kernel
theorem d_mm_pay_9 : decode b_mm_pay 9 = .ok (.iload_n 1, 1) := by decide +kernel
theorem d_mm_pay_10 : decode b_mm_pay 10 = .ok (.iaload, 1) := by decide +kernel
theorem d_mm_pay_11 : decode b_mm_pay 11 = .ok (.if_icmp .ge 39, 3) := by decide +kernel
theorem d_mm_pay_14 : decode b_mm_pay 14 = .ok (.aload_n 0, 1) := by decide +kernel
theorem d_mm_pay_15 : decode b_mm_pay 15 = .ok (.getfield 47, 3) := by decide +kernel
theorem d_mm_pay_18 : decode b_mm_pay 18 = .ok (.iconst 3, 1) := by decide +kernel
theorem d_mm_pay_19 : decode b_mm_pay 19 = .ok (.iload_n 1, 1) := by decide +kernel
theorem d_mm_pay_20 : decode b_mm_pay 20 = .ok (.imul, 1) := by decide +kernel
theorem d_mm_pay_21 : decode b_mm_pay 21 = .ok (.iload_n 3, 1) := by decide +kernel
theorem d_mm_pay_22 : decode b_mm_pay 22 = .ok (.iadd, 1) := by decide +kernel
theorem d_mm_pay_23 : decode b_mm_pay 23 = .ok (.iaload, 1) := by decide +kernel
theorem d_mm_pay_24 : decode b_mm_pay 24 = .ok (.istore 4, 2) := by decide +kernel
theorem d_mm_pay_26 : decode b_mm_pay 26 = .ok (.aload_n 0, 1) := by decide +kernel
theorem d_mm_pay_27 : decode b_mm_pay 27 = .ok (.iload 4, 2) := by decide +kernel
theorem d_mm_pay_29 : decode b_mm_pay 29 = .ok (.invokevirtual 165, 3) := by decide +kernel
theorem d_mm_pay_32 : decode b_mm_pay 32 = .ok (.ifCond .eq 12, 3) := by decide +kernel
theorem d_mm_pay_35 : decode b_mm_pay 35 = .ok (.iload_n 2, 1) := by decide +kernel
theorem d_mm_pay_36 : decode b_mm_pay 36 = .ok (.aload_n 0, 1) := by decide +kernel
theorem d_mm_pay_37 : decode b_mm_pay 37 = .ok (.iload 4, 2) := by decide +kernel
theorem d_mm_pay_39 : decode b_mm_pay 39 = .ok (.invokevirtual 168, 3) := by decide +kernel
theorem d_mm_pay_42 : decode b_mm_pay 42 = .ok (.iadd, 1) := by decide +kernel
theorem d_mm_pay_43 : decode b_mm_pay 43 = .ok (.istore_n 2, 1) := by decide +kernel
theorem d_mm_pay_44 : decode b_mm_pay 44 = .ok (.iinc 3 1, 3) := by decide +kernel
theorem d_mm_pay_47 : decode b_mm_pay 47 = .ok (.goto (-43), 3) := by decide +kernel
theorem d_mm_pay_50 : decode b_mm_pay 50 = .ok (.aload_n 0, 1) := by decide +kernel
theorem d_mm_pay_51 : decode b_mm_pay 51 = .ok (.getfield 92, 3) := by decide +kernel
theorem d_mm_pay_54 : decode b_mm_pay 54 = .ok (.iload_n 1, 1) := by decide +kernel
theorem d_mm_pay_55 : decode b_mm_pay 55 = .ok (.aload_n 0, 1) := by decide +kernel
theorem d_mm_pay_56 : decode b_mm_pay 56 = .ok (.getfield 64, 3) := by decide +kernel
theorem d_mm_pay_59 : decode b_mm_pay 59 = .ok (.bipush 60, 2) := by decide +kernel
theorem d_mm_pay_61 : decode b_mm_pay 61 = .ok (.laload, 1) := by decide +kernel
theorem d_mm_pay_62 : decode b_mm_pay 62 = .ok (.iload_n 1, 1) := by decide +kernel
theorem d_mm_pay_63 : decode b_mm_pay 63 = .ok (.invokestatic 125, 3) := by decide +kernel
theorem d_mm_pay_66 : decode b_mm_pay 66 = .ok (.bastore, 1) := by decide +kernel
theorem d_mm_pay_67 : decode b_mm_pay 67 = .ok (.aload_n 0, 1) := by decide +kernel
theorem d_mm_pay_68 : decode b_mm_pay 68 = .ok (.getfield 95, 3) := by decide +kernel
theorem d_mm_pay_71 : decode b_mm_pay 71 = .ok (.iload_n 1, 1) := by decide +kernel
theorem d_mm_pay_72 : decode b_mm_pay 72 = .ok (.aload_n 0, 1) := by decide +kernel
theorem d_mm_pay_73 : decode b_mm_pay 73 = .ok (.getfield 67, 3) := by decide +kernel
theorem d_mm_pay_76 : decode b_mm_pay 76 = .ok (.iload_n 1, 1) := by decide +kernel
theorem d_mm_pay_77 : decode b_mm_pay 77 = .ok (.iaload, 1) := by decide +kernel
theorem d_mm_pay_78 : decode b_mm_pay 78 = .ok (.bipush 56, 2) := by decide +kernel
theorem d_mm_pay_80 : decode b_mm_pay 80 = .ok (.if_icmp .ge 18, 3) := by decide +kernel
theorem d_mm_pay_83 : decode b_mm_pay 83 = .ok (.bipush 64, 2) := by decide +kernel
theorem d_mm_pay_85 : decode b_mm_pay 85 = .ok (.aload_n 0, 1) := by decide +kernel
theorem d_mm_pay_86 : decode b_mm_pay 86 = .ok (.getfield 67, 3) := by decide +kernel
theorem d_mm_pay_89 : decode b_mm_pay 89 = .ok (.iload_n 1, 1) := by decide +kernel
theorem d_mm_pay_90 : decode b_mm_pay 90 = .ok (.iaload, 1) := by decide +kernel
theorem d_mm_pay_91 : decode b_mm_pay 91 = .ok (.bipush 8, 2) := by decide +kernel
theorem d_mm_pay_93 : decode b_mm_pay 93 = .ok (.idiv, 1) := by decide +kernel
theorem d_mm_pay_94 : decode b_mm_pay 94 = .ok (.ishr, 1) := by decide +kernel
theorem d_mm_pay_95 : decode b_mm_pay 95 = .ok (.goto 4, 3) := by decide +kernel
theorem d_mm_pay_98 : decode b_mm_pay 98 = .ok (.iconst 0, 1) := by decide +kernel
theorem d_mm_pay_99 : decode b_mm_pay 99 = .ok (.iload_n 2, 1) := by decide +kernel
theorem d_mm_pay_100 : decode b_mm_pay 100 = .ok (.iadd, 1) := by decide +kernel
theorem d_mm_pay_101 : decode b_mm_pay 101 = .ok (.iastore, 1) := by decide +kernel
theorem d_mm_pay_102 : decode b_mm_pay 102 = .ok (.return_, 1) := by decide +kernel
theorem d_mm_look_0 : decode b_mm_look 0 = .ok (.aload_n 0, 1) := by decide +kernel
theorem d_mm_look_1 : decode b_mm_look 1 = .ok (.bipush 60, 2) := by decide +kernel
theorem d_mm_look_3 : decode b_mm_look 3 = .ok (.aload_n 0, 1) := by decide +kernel
theorem d_mm_look_4 : decode b_mm_look 4 = .ok (.invokevirtual 147, 3) := by decide +kernel
theorem d_mm_look_7 : decode b_mm_look 7 = .ok (.invokevirtual 151, 3) := by decide +kernel
theorem d_mm_look_10 : decode b_mm_look 10 = .ok (.aload_n 0, 1) := by decide +kernel
theorem d_mm_look_11 : decode b_mm_look 11 = .ok (.invokevirtual 155, 3) := by decide +kernel
theorem d_mm_look_14 : decode b_mm_look 14 = .ok (.iconst 0, 1) := by decide +kernel
theorem d_mm_look_15 : decode b_mm_look 15 = .ok (.istore_n 1, 1) := by decide +kernel
theorem d_mm_look_16 : decode b_mm_look 16 = .ok (.iload_n 1, 1) := by decide +kernel
theorem d_mm_look_17 : decode b_mm_look 17 = .ok (.bipush 40, 2) := by decide +kernel
theorem d_mm_look_19 : decode b_mm_look 19 = .ok (.if_icmp .ge 16, 3) := by decide +kernel
theorem d_mm_look_22 : decode b_mm_look 22 = .ok (.aload_n 0, 1) := by decide +kernel
theorem d_mm_look_23 : decode b_mm_look 23 = .ok (.getfield 85, 3) := by decide +kernel
theorem d_mm_look_26 : decode b_mm_look 26 = .ok (.iload_n 1, 1) := by decide +kernel
theorem d_mm_look_27 : decode b_mm_look 27 = .ok (.iconst 0, 1) := by decide +kernel
theorem d_mm_look_28 : decode b_mm_look 28 = .ok (.bastore, 1) := by decide +kernel
theorem d_mm_look_29 : decode b_mm_look 29 = .ok (.iinc 1 1, 3) := by decide +kernel
theorem d_mm_look_32 : decode b_mm_look 32 = .ok (.goto (-16), 3) := by decide +kernel
theorem d_mm_look_35 : decode b_mm_look 35 = .ok (.iconst 0, 1) := by decide +kernel
theorem d_mm_look_36 : decode b_mm_look 36 = .ok (.istore_n 1, 1) := by decide +kernel
theorem d_mm_look_37 : decode b_mm_look 37 = .ok (.iload_n 1, 1) := by decide +kernel
theorem d_mm_look_38 : decode b_mm_look 38 = .ok (.bipush 80, 2) := by decide +kernel
theorem d_mm_look_40 : decode b_mm_look 40 = .ok (.if_icmp .ge 16, 3) := by decide +kernel
theorem d_mm_look_43 : decode b_mm_look 43 = .ok (.aload_n 0, 1) := by decide +kernel
theorem d_mm_look_44 : decode b_mm_look 44 = .ok (.getfield 89, 3) := by decide +kernel
theorem d_mm_look_47 : decode b_mm_look 47 = .ok (.iload_n 1, 1) := by decide +kernel
theorem d_mm_look_48 : decode b_mm_look 48 = .ok (.iconst 0, 1) := by decide +kernel
theorem d_mm_look_49 : decode b_mm_look 49 = .ok (.bastore, 1) := by decide +kernel
theorem d_mm_look_50 : decode b_mm_look 50 = .ok (.iinc 1 1, 3) := by decide +kernel
theorem d_mm_look_53 : decode b_mm_look 53 = .ok (.goto (-16), 3) := by decide +kernel
theorem d_mm_look_56 : decode b_mm_look 56 = .ok (.iconst 0, 1) := by decide +kernel
theorem d_mm_look_57 : decode b_mm_look 57 = .ok (.istore_n 1, 1) := by decide +kernel
theorem d_mm_look_58 : decode b_mm_look 58 = .ok (.iload_n 1, 1) := by decide +kernel
theorem d_mm_look_59 : decode b_mm_look 59 = .ok (.bipush 60, 2) := by decide +kernel
theorem d_mm_look_61 : decode b_mm_look 61 = .ok (.if_icmp .ge 16, 3) := by decide +kernel
theorem d_mm_look_64 : decode b_mm_look 64 = .ok (.aload_n 0, 1) := by decide +kernel
theorem d_mm_look_65 : decode b_mm_look 65 = .ok (.getfield 92, 3) := by decide +kernel
theorem d_mm_look_68 : decode b_mm_look 68 = .ok (.iload_n 1, 1) := by decide +kernel
theorem d_mm_look_69 : decode b_mm_look 69 = .ok (.iconst 0, 1) := by decide +kernel
theorem d_mm_look_70 : decode b_mm_look 70 = .ok (.bastore, 1) := by decide +kernel
theorem d_mm_look_71 : decode b_mm_look 71 = .ok (.iinc 1 1, 3) := by decide +kernel
theorem d_mm_look_74 : decode b_mm_look 74 = .ok (.goto (-16), 3) := by decide +kernel
theorem d_mm_look_77 : decode b_mm_look 77 = .ok (.iconst 0, 1) := by decide +kernel
theorem d_mm_look_78 : decode b_mm_look 78 = .ok (.istore_n 1, 1) := by decide +kernel
theorem d_mm_look_79 : decode b_mm_look 79 = .ok (.iload_n 1, 1) := by decide +kernel
theorem d_mm_look_80 : decode b_mm_look 80 = .ok (.aload_n 0, 1) := by decide +kernel
theorem d_mm_look_81 : decode b_mm_look 81 = .ok (.getfield 158, 3) := by decide +kernel
theorem d_mm_look_84 : decode b_mm_look 84 = .ok (.if_icmp .ge 19, 3) := by decide +kernel
theorem d_mm_look_87 : decode b_mm_look 87 = .ok (.aload_n 0, 1) := by decide +kernel
theorem d_mm_look_88 : decode b_mm_look 88 = .ok (.aload_n 0, 1) := by decide +kernel
theorem d_mm_look_89 : decode b_mm_look 89 = .ok (.getfield 79, 3) := by decide +kernel
theorem d_mm_look_92 : decode b_mm_look 92 = .ok (.iload_n 1, 1) := by decide +kernel
theorem d_mm_look_93 : decode b_mm_look 93 = .ok (.iaload, 1) := by decide +kernel
theorem d_mm_look_94 : decode b_mm_look 94 = .ok (.invokevirtual 161, 3) := by decide +kernel
theorem d_mm_look_97 : decode b_mm_look 97 = .ok (.iinc 1 1, 3) := by decide +kernel
theorem d_mm_look_100 : decode b_mm_look 100 = .ok (.goto (-21), 3) := by decide +kernel
theorem d_mm_look_103 : decode b_mm_look 103 = .ok (.return_, 1) := by decide +kernel
theorem d_mm_init_0 : decode b_mm_init 0 = .ok (.aload_n 0, 1) := by decide +kernel
theorem d_mm_init_1 : decode b_mm_init 1 = .ok (.invokespecial 1, 3) := by decide +kernel
theorem d_mm_init_4 : decode b_mm_init 4 = .ok (.aload_n 0, 1) := by decide +kernel
theorem d_mm_init_5 : decode b_mm_init 5 = .ok (.bipush 41, 2) := by decide +kernel
theorem d_mm_init_7 : decode b_mm_init 7 = .ok (.newarray .int, 2) := by decide +kernel
theorem d_mm_init_9 : decode b_mm_init 9 = .ok (.putfield 7, 3) := by decide +kernel
theorem d_mm_init_12 : decode b_mm_init 12 = .ok (.aload_n 0, 1) := by decide +kernel
theorem d_mm_init_13 : decode b_mm_init 13 = .ok (.bipush 41, 2) := by decide +kernel
theorem d_mm_init_15 : decode b_mm_init 15 = .ok (.newarray .int, 2) := by decide +kernel
theorem d_mm_init_17 : decode b_mm_init 17 = .ok (.putfield 13, 3) := by decide +kernel
theorem d_mm_init_20 : decode b_mm_init 20 = .ok (.aload_n 0, 1) := by decide +kernel
theorem d_mm_init_21 : decode b_mm_init 21 = .ok (.bipush 82, 2) := by decide +kernel
theorem d_mm_init_23 : decode b_mm_init 23 = .ok (.newarray .int, 2) := by decide +kernel
theorem d_mm_init_25 : decode b_mm_init 25 = .ok (.putfield 16, 3) := by decide +kernel
theorem d_mm_init_28 : decode b_mm_init 28 = .ok (.aload_n 0, 1) := by decide +kernel
theorem d_mm_init_29 : decode b_mm_init 29 = .ok (.bipush 82, 2) := by decide +kernel
theorem d_mm_init_31 : decode b_mm_init 31 = .ok (.newarray .int, 2) := by decide +kernel
theorem d_mm_init_33 : decode b_mm_init 33 = .ok (.putfield 19, 3) := by decide +kernel
theorem d_mm_init_36 : decode b_mm_init 36 = .ok (.aload_n 0, 1) := by decide +kernel
theorem d_mm_init_37 : decode b_mm_init 37 = .ok (.bipush 82, 2) := by decide +kernel
theorem d_mm_init_39 : decode b_mm_init 39 = .ok (.newarray .int, 2) := by decide +kernel
theorem d_mm_init_41 : decode b_mm_init 41 = .ok (.putfield 22, 3) := by decide +kernel
theorem d_mm_init_44 : decode b_mm_init 44 = .ok (.aload_n 0, 1) := by decide +kernel
theorem d_mm_init_45 : decode b_mm_init 45 = .ok (.bipush 82, 2) := by decide +kernel
theorem d_mm_init_47 : decode b_mm_init 47 = .ok (.newarray .int, 2) := by decide +kernel
theorem d_mm_init_49 : decode b_mm_init 49 = .ok (.putfield 25, 3) := by decide +kernel
theorem d_mm_init_52 : decode b_mm_init 52 = .ok (.aload_n 0, 1) := by decide +kernel
theorem d_mm_init_53 : decode b_mm_init 53 = .ok (.bipush 82, 2) := by decide +kernel
theorem d_mm_init_55 : decode b_mm_init 55 = .ok (.newarray .int, 2) := by decide +kernel
theorem d_mm_init_57 : decode b_mm_init 57 = .ok (.putfield 28, 3) := by decide +kernel
theorem d_mm_init_60 : decode b_mm_init 60 = .ok (.aload_n 0, 1) := by decide +kernel
theorem d_mm_init_61 : decode b_mm_init 61 = .ok (.bipush 41, 2) := by decide +kernel
theorem d_mm_init_63 : decode b_mm_init 63 = .ok (.newarray .int, 2) := by decide +kernel
theorem d_mm_init_65 : decode b_mm_init 65 = .ok (.putfield 31, 3) := by decide +kernel
theorem d_mm_init_68 : decode b_mm_init 68 = .ok (.aload_n 0, 1) := by decide +kernel
theorem d_mm_init_69 : decode b_mm_init 69 = .ok (.iconst 1, 1) := by decide +kernel
theorem d_mm_init_70 : decode b_mm_init 70 = .ok (.putfield 34, 3) := by decide +kernel
theorem d_mm_init_73 : decode b_mm_init 73 = .ok (.aload_n 0, 1) := by decide +kernel
theorem d_mm_init_74 : decode b_mm_init 74 = .ok (.bipush 62, 2) := by decide +kernel
theorem d_mm_init_76 : decode b_mm_init 76 = .ok (.newarray .int, 2) := by decide +kernel
theorem d_mm_init_78 : decode b_mm_init 78 = .ok (.putfield 38, 3) := by decide +kernel
theorem d_mm_init_81 : decode b_mm_init 81 = .ok (.aload_n 0, 1) := by decide +kernel
theorem d_mm_init_82 : decode b_mm_init 82 = .ok (.sipush 248, 3) := by decide +kernel
theorem d_mm_init_85 : decode b_mm_init 85 = .ok (.newarray .int, 2) := by decide +kernel
theorem d_mm_init_87 : decode b_mm_init 87 = .ok (.putfield 41, 3) := by decide +kernel
theorem d_mm_init_90 : decode b_mm_init 90 = .ok (.aload_n 0, 1) := by decide +kernel
theorem d_mm_init_91 : decode b_mm_init 91 = .ok (.bipush 62, 2) := by decide +kernel
theorem d_mm_init_93 : decode b_mm_init 93 = .ok (.newarray .int, 2) := by decide +kernel
theorem d_mm_init_95 : decode b_mm_init 95 = .ok (.putfield 44, 3) := by decide +kernel
theorem d_mm_init_98 : decode b_mm_init 98 = .ok (.aload_n 0, 1) := by decide +kernel
theorem d_mm_init_99 : decode b_mm_init 99 = .ok (.sipush 186, 3) := by decide +kernel
theorem d_mm_init_102 : decode b_mm_init 102 = .ok (.newarray .int, 2) := by decide +kernel
theorem d_mm_init_104 : decode b_mm_init 104 = .ok (.putfield 47, 3) := by decide +kernel
theorem d_mm_init_107 : decode b_mm_init 107 = .ok (.aload_n 0, 1) := by decide +kernel
theorem d_mm_init_108 : decode b_mm_init 108 = .ok (.bipush 62, 2) := by decide +kernel
theorem d_mm_init_110 : decode b_mm_init 110 = .ok (.newarray .int, 2) := by decide +kernel
theorem d_mm_init_112 : decode b_mm_init 112 = .ok (.putfield 50, 3) := by decide +kernel
theorem d_mm_init_115 : decode b_mm_init 115 = .ok (.aload_n 0, 1) := by decide +kernel
theorem d_mm_init_116 : decode b_mm_init 116 = .ok (.bipush 62, 2) := by decide +kernel
theorem d_mm_init_118 : decode b_mm_init 118 = .ok (.newarray .int, 2) := by decide +kernel
theorem d_mm_init_120 : decode b_mm_init 120 = .ok (.putfield 53, 3) := by decide +kernel
theorem d_mm_init_123 : decode b_mm_init 123 = .ok (.aload_n 0, 1) := by decide +kernel
theorem d_mm_init_124 : decode b_mm_init 124 = .ok (.lconst 1, 1) := by decide +kernel
theorem d_mm_init_125 : decode b_mm_init 125 = .ok (.putfield 56, 3) := by decide +kernel
theorem d_mm_init_128 : decode b_mm_init 128 = .ok (.aload_n 0, 1) := by decide +kernel
theorem d_mm_init_129 : decode b_mm_init 129 = .ok (.bipush 61, 2) := by decide +kernel
theorem d_mm_init_131 : decode b_mm_init 131 = .ok (.newarray .long, 2) := by decide +kernel
theorem d_mm_init_133 : decode b_mm_init 133 = .ok (.putfield 60, 3) := by decide +kernel
theorem d_mm_init_136 : decode b_mm_init 136 = .ok (.aload_n 0, 1) := by decide +kernel
theorem d_mm_init_137 : decode b_mm_init 137 = .ok (.bipush 61, 2) := by decide +kernel
theorem d_mm_init_139 : decode b_mm_init 139 = .ok (.newarray .long, 2) := by decide +kernel
theorem d_mm_init_141 : decode b_mm_init 141 = .ok (.putfield 64, 3) := by decide +kernel
theorem d_mm_init_144 : decode b_mm_init 144 = .ok (.aload_n 0, 1) := by decide +kernel
theorem d_mm_init_145 : decode b_mm_init 145 = .ok (.bipush 61, 2) := by decide +kernel
theorem d_mm_init_147 : decode b_mm_init 147 = .ok (.newarray .int, 2) := by decide +kernel
theorem d_mm_init_149 : decode b_mm_init 149 = .ok (.putfield 67, 3) := by decide +kernel
theorem d_mm_init_152 : decode b_mm_init 152 = .ok (.aload_n 0, 1) := by decide +kernel
theorem d_mm_init_153 : decode b_mm_init 153 = .ok (.bipush 61, 2) := by decide +kernel
theorem d_mm_init_155 : decode b_mm_init 155 = .ok (.newarray .int, 2) := by decide +kernel
theorem d_mm_init_157 : decode b_mm_init 157 = .ok (.putfield 70, 3) := by decide +kernel
theorem d_mm_init_160 : decode b_mm_init 160 = .ok (.aload_n 0, 1) := by decide +kernel
theorem d_mm_init_161 : decode b_mm_init 161 = .ok (.iconst 4, 1) := by decide +kernel
theorem d_mm_init_162 : decode b_mm_init 162 = .ok (.newarray .int, 2) := by decide +kernel
theorem d_mm_init_164 : decode b_mm_init 164 = .ok (.putfield 73, 3) := by decide +kernel
theorem d_mm_init_167 : decode b_mm_init 167 = .ok (.aload_n 0, 1) := by decide +kernel
theorem d_mm_init_168 : decode b_mm_init 168 = .ok (.bipush 8, 2) := by decide +kernel
theorem d_mm_init_170 : decode b_mm_init 170 = .ok (.newarray .int, 2) := by decide +kernel
theorem d_mm_init_172 : decode b_mm_init 172 = .ok (.putfield 76, 3) := by decide +kernel
theorem d_mm_init_175 : decode b_mm_init 175 = .ok (.aload_n 0, 1) := by decide +kernel
theorem d_mm_init_176 : decode b_mm_init 176 = .ok (.bipush 64, 2) := by decide +kernel
theorem d_mm_init_178 : decode b_mm_init 178 = .ok (.newarray .int, 2) := by decide +kernel
theorem d_mm_init_180 : decode b_mm_init 180 = .ok (.putfield 79, 3) := by decide +kernel
theorem d_mm_init_183 : decode b_mm_init 183 = .ok (.aload_n 0, 1) := by decide +kernel
theorem d_mm_init_184 : decode b_mm_init 184 = .ok (.bipush 64, 2) := by decide +kernel
theorem d_mm_init_186 : decode b_mm_init 186 = .ok (.newarray .int, 2) := by decide +kernel
theorem d_mm_init_188 : decode b_mm_init 188 = .ok (.putfield 82, 3) := by decide +kernel
theorem d_mm_init_191 : decode b_mm_init 191 = .ok (.aload_n 0, 1) := by decide +kernel
theorem d_mm_init_192 : decode b_mm_init 192 = .ok (.bipush 40, 2) := by decide +kernel
theorem d_mm_init_194 : decode b_mm_init 194 = .ok (.newarray .boolean, 2) := by decide +kernel
theorem d_mm_init_196 : decode b_mm_init 196 = .ok (.putfield 85, 3) := by decide +kernel
theorem d_mm_init_199 : decode b_mm_init 199 = .ok (.aload_n 0, 1) := by decide +kernel
theorem d_mm_init_200 : decode b_mm_init 200 = .ok (.bipush 80, 2) := by decide +kernel
theorem d_mm_init_202 : decode b_mm_init 202 = .ok (.newarray .boolean, 2) := by decide +kernel
theorem d_mm_init_204 : decode b_mm_init 204 = .ok (.putfield 89, 3) := by decide +kernel
theorem d_mm_init_207 : decode b_mm_init 207 = .ok (.aload_n 0, 1) := by decide +kernel
theorem d_mm_init_208 : decode b_mm_init 208 = .ok (.bipush 60, 2) := by decide +kernel
theorem d_mm_init_210 : decode b_mm_init 210 = .ok (.newarray .boolean, 2) := by decide +kernel
theorem d_mm_init_212 : decode b_mm_init 212 = .ok (.putfield 92, 3) := by decide +kernel
theorem d_mm_init_215 : decode b_mm_init 215 = .ok (.aload_n 0, 1) := by decide +kernel
theorem d_mm_init_216 : decode b_mm_init 216 = .ok (.bipush 60, 2) := by decide +kernel
theorem d_mm_init_218 : decode b_mm_init 218 = .ok (.newarray .int, 2) := by decide +kernel
theorem d_mm_init_220 : decode b_mm_init 220 = .ok (.putfield 95, 3) := by decide +kernel
theorem d_mm_init_223 : decode b_mm_init 223 = .ok (.aload_n 0, 1) := by decide +kernel
theorem d_mm_init_224 : decode b_mm_init 224 = .ok (.iload_n 1, 1) := by decide +kernel
theorem d_mm_init_225 : decode b_mm_init 225 = .ok (.sipush 255, 3) := by decide +kernel
theorem d_mm_init_228 : decode b_mm_init 228 = .ok (.iand, 1) := by decide +kernel
theorem d_mm_init_229 : decode b_mm_init 229 = .ok (.iconst 5, 1) := by decide +kernel
theorem d_mm_init_230 : decode b_mm_init 230 = .ok (.irem, 1) := by decide +kernel
theorem d_mm_init_231 : decode b_mm_init 231 = .ok (.putfield 98, 3) := by decide +kernel
theorem d_mm_init_234 : decode b_mm_init 234 = .ok (.aload_n 0, 1) := by decide +kernel
theorem d_mm_init_235 : decode b_mm_init 235 = .ok (.getfield 53, 3) := by decide +kernel
theorem d_mm_init_238 : decode b_mm_init 238 = .ok (.iconst 0, 1) := by decide +kernel
theorem d_mm_init_239 : decode b_mm_init 239 = .ok (.bipush 13, 2) := by decide +kernel
theorem d_mm_init_241 : decode b_mm_init 241 = .ok (.iconst 0, 1) := by decide +kernel
theorem d_mm_init_242 : decode b_mm_init 242 = .ok (.invokestatic 101, 3) := by decide +kernel
theorem d_mm_init_245 : decode b_mm_init 245 = .ok (.iconst 0, 1) := by decide +kernel
theorem d_mm_init_246 : decode b_mm_init 246 = .ok (.invokestatic 101, 3) := by decide +kernel
theorem d_mm_init_249 : decode b_mm_init 249 = .ok (.ldc 105, 2) := by decide +kernel
theorem d_mm_init_251 : decode b_mm_init 251 = .ok (.iand, 1) := by decide +kernel
theorem d_mm_init_252 : decode b_mm_init 252 = .ok (.iastore, 1) := by decide +kernel
theorem d_mm_init_253 : decode b_mm_init 253 = .ok (.aload_n 0, 1) := by decide +kernel
theorem d_mm_init_254 : decode b_mm_init 254 = .ok (.getfield 70, 3) := by decide +kernel
theorem d_mm_init_257 : decode b_mm_init 257 = .ok (.iconst 0, 1) := by decide +kernel
theorem d_mm_init_258 : decode b_mm_init 258 = .ok (.iconst (-1), 1) := by decide +kernel
theorem d_mm_init_259 : decode b_mm_init 259 = .ok (.iastore, 1) := by decide +kernel
theorem d_mm_init_260 : decode b_mm_init 260 = .ok (.aload_n 0, 1) := by decide +kernel
theorem d_mm_init_261 : decode b_mm_init 261 = .ok (.invokevirtual 106, 3) := by decide +kernel
theorem d_mm_init_264 : decode b_mm_init 264 = .ok (.return_, 1) := by decide +kernel
theorem d_mm_isBlock_0 : decode b_mm_isBlock 0 = .ok (.iload_n 1, 1) := by decide +kernel
theorem d_mm_isBlock_1 : decode b_mm_isBlock 1 = .ok (.ifCond .lt 15, 3) := by decide +kernel
theorem d_mm_isBlock_4 : decode b_mm_isBlock 4 = .ok (.iload_n 1, 1) := by decide +kernel
theorem d_mm_isBlock_5 : decode b_mm_isBlock 5 = .ok (.aload_n 0, 1) := by decide +kernel
theorem d_mm_isBlock_6 : decode b_mm_isBlock 6 = .ok (.getfield 34, 3) := by decide +kernel
theorem d_mm_isBlock_9 : decode b_mm_isBlock 9 = .ok (.if_icmp .ge 7, 3) := by decide +kernel
theorem d_mm_isBlock_12 : decode b_mm_isBlock 12 = .ok (.iconst 1, 1) := by decide +kernel
theorem d_mm_isBlock_13 : decode b_mm_isBlock 13 = .ok (.goto 4, 3) := by decide +kernel
theorem d_mm_isBlock_16 : decode b_mm_isBlock 16 = .ok (.iconst 0, 1) := by decide +kernel
theorem d_mm_isBlock_17 : decode b_mm_isBlock 17 = .ok (.ireturn, 1) := by decide +kernel
theorem d_mm_input_0 : decode b_mm_input 0 = .ok (.iload_n 1, 1) := by decide +kernel
theorem d_mm_input_1 : decode b_mm_input 1 = .ok (.bipush 100, 2) := by decide +kernel
theorem d_mm_input_3 : decode b_mm_input 3 = .ok (.if_icmp .lt 18, 3) := by decide +kernel
theorem d_mm_input_6 : decode b_mm_input 6 = .ok (.iload_n 1, 1) := by decide +kernel
theorem d_mm_input_7 : decode b_mm_input 7 = .ok (.bipush 100, 2) := by decide +kernel
theorem d_mm_input_9 : decode b_mm_input 9 = .ok (.isub, 1) := by decide +kernel
theorem d_mm_input_10 : decode b_mm_input 10 = .ok (.aload_n 0, 1) := by decide +kernel
theorem d_mm_input_11 : decode b_mm_input 11 = .ok (.getfield 34, 3) := by decide +kernel
theorem d_mm_input_14 : decode b_mm_input 14 = .ok (.if_icmp .ge 7, 3) := by decide +kernel
theorem d_mm_input_17 : decode b_mm_input 17 = .ok (.iconst 1, 1) := by decide +kernel
theorem d_mm_input_18 : decode b_mm_input 18 = .ok (.goto 4, 3) := by decide +kernel
theorem d_mm_input_21 : decode b_mm_input 21 = .ok (.iconst 0, 1) := by decide +kernel
theorem d_mm_input_22 : decode b_mm_input 22 = .ok (.istore 4, 2) := by decide +kernel
theorem d_mm_input_24 : decode b_mm_input 24 = .ok (.iload_n 1, 1) := by decide +kernel
theorem d_mm_input_25 : decode b_mm_input 25 = .ok (.ifCond .lt 15, 3) := by decide +kernel
theorem d_mm_input_28 : decode b_mm_input 28 = .ok (.iload_n 1, 1) := by decide +kernel
theorem d_mm_input_29 : decode b_mm_input 29 = .ok (.aload_n 0, 1) := by decide +kernel
theorem d_mm_input_30 : decode b_mm_input 30 = .ok (.getfield 110, 3) := by decide +kernel
theorem d_mm_input_33 : decode b_mm_input 33 = .ok (.if_icmp .ge 7, 3) := by decide +kernel
theorem d_mm_input_36 : decode b_mm_input 36 = .ok (.iconst 1, 1) := by decide +kernel
theorem d_mm_input_37 : decode b_mm_input 37 = .ok (.goto 4, 3) := by decide +kernel
theorem d_mm_input_40 : decode b_mm_input 40 = .ok (.iconst 0, 1) := by decide +kernel
theorem d_mm_input_41 : decode b_mm_input 41 = .ok (.istore 5, 2) := by decide +kernel
theorem d_mm_input_43 : decode b_mm_input 43 = .ok (.iload 4, 2) := by decide +kernel
theorem d_mm_input_45 : decode b_mm_input 45 = .ok (.ifCond .ne 8, 3) := by decide +kernel
theorem d_mm_input_48 : decode b_mm_input 48 = .ok (.iload 5, 2) := by decide +kernel
theorem d_mm_input_50 : decode b_mm_input 50 = .ok (.ifCond .eq 32, 3) := by decide +kernel
theorem d_mm_input_53 : decode b_mm_input 53 = .ok (.iload_n 2, 1) := by decide +kernel
theorem d_mm_input_54 : decode b_mm_input 54 = .ok (.ifCond .lt 28, 3) := by decide +kernel
theorem d_mm_input_57 : decode b_mm_input 57 = .ok (.iload_n 2, 1) := by decide +kernel
theorem d_mm_input_58 : decode b_mm_input 58 = .ok (.iload 4, 2) := by decide +kernel
theorem d_mm_input_60 : decode b_mm_input 60 = .ok (.ifCond .eq 7, 3) := by decide +kernel
theorem d_mm_input_63 : decode b_mm_input 63 = .ok (.iconst 0, 1) := by decide +kernel
theorem d_mm_input_64 : decode b_mm_input 64 = .ok (.goto 4, 3) := by decide +kernel
theorem d_mm_input_67 : decode b_mm_input 67 = .ok (.iconst 1, 1) := by decide +kernel
theorem d_mm_input_68 : decode b_mm_input 68 = .ok (.if_icmp .gt 14, 3) := by decide +kernel
theorem d_mm_input_71 : decode b_mm_input 71 = .ok (.aload_n 0, 1) := by decide +kernel
theorem d_mm_input_72 : decode b_mm_input 72 = .ok (.getfield 7, 3) := by decide +kernel
theorem d_mm_input_75 : decode b_mm_input 75 = .ok (.bipush 40, 2) := by decide +kernel
theorem d_mm_input_77 : decode b_mm_input 77 = .ok (.iaload, 1) := by decide +kernel
theorem d_mm_input_78 : decode b_mm_input 78 = .ok (.iconst 2, 1) := by decide +kernel
theorem d_mm_input_79 : decode b_mm_input 79 = .ok (.if_icmp .ne 5, 3) := by decide +kernel
theorem d_mm_input_82 : decode b_mm_input 82 = .ok (.iconst 0, 1) := by decide +kernel
theorem d_mm_input_83 : decode b_mm_input 83 = .ok (.ireturn, 1) := by decide +kernel
theorem d_mm_input_84 : decode b_mm_input 84 = .ok (.bipush 80, 2) := by decide +kernel
theorem d_mm_input_86 : decode b_mm_input 86 = .ok (.aload_n 0, 1) := by decide +kernel
theorem d_mm_input_87 : decode b_mm_input 87 = .ok (.getfield 7, 3) := by decide +kernel
theorem d_mm_input_90 : decode b_mm_input 90 = .ok (.bipush 40, 2) := by decide +kernel
theorem d_mm_input_92 : decode b_mm_input 92 = .ok (.iaload, 1) := by decide +kernel
theorem d_mm_input_93 : decode b_mm_input 93 = .ok (.iadd, 1) := by decide +kernel
theorem d_mm_input_94 : decode b_mm_input 94 = .ok (.istore 6, 2) := by decide +kernel
theorem d_mm_input_96 : decode b_mm_input 96 = .ok (.aload_n 0, 1) := by decide +kernel
theorem d_mm_input_97 : decode b_mm_input 97 = .ok (.getfield 16, 3) := by decide +kernel
theorem d_mm_input_100 : decode b_mm_input 100 = .ok (.iload 6, 2) := by decide +kernel
theorem d_mm_input_102 : decode b_mm_input 102 = .ok (.iload_n 1, 1) := by decide +kernel
theorem d_mm_input_103 : decode b_mm_input 103 = .ok (.iastore, 1) := by decide +kernel
theorem d_mm_input_104 : decode b_mm_input 104 = .ok (.aload_n 0, 1) := by decide +kernel
theorem d_mm_input_105 : decode b_mm_input 105 = .ok (.getfield 19, 3) := by decide +kernel
theorem d_mm_input_108 : decode b_mm_input 108 = .ok (.iload 6, 2) := by decide +kernel
theorem d_mm_input_110 : decode b_mm_input 110 = .ok (.iload_n 2, 1) := by decide +kernel
theorem d_mm_input_111 : decode b_mm_input 111 = .ok (.iastore, 1) := by decide +kernel
theorem d_mm_input_112 : decode b_mm_input 112 = .ok (.aload_n 0, 1) := by decide +kernel
theorem d_mm_input_113 : decode b_mm_input 113 = .ok (.getfield 22, 3) := by decide +kernel
theorem d_mm_input_116 : decode b_mm_input 116 = .ok (.iload 6, 2) := by decide +kernel
theorem d_mm_input_118 : decode b_mm_input 118 = .ok (.iload_n 3, 1) := by decide +kernel
theorem d_mm_input_119 : decode b_mm_input 119 = .ok (.iastore, 1) := by decide +kernel
theorem d_mm_input_120 : decode b_mm_input 120 = .ok (.aload_n 0, 1) := by decide +kernel
theorem d_mm_input_121 : decode b_mm_input 121 = .ok (.getfield 7, 3) := by decide +kernel
theorem d_mm_input_124 : decode b_mm_input 124 = .ok (.bipush 40, 2) := by decide +kernel
theorem d_mm_input_126 : decode b_mm_input 126 = .ok (.dup2, 1) := by decide +kernel
theorem d_mm_input_127 : decode b_mm_input 127 = .ok (.iaload, 1) := by decide +kernel
theorem d_mm_input_128 : decode b_mm_input 128 = .ok (.iconst 1, 1) := by decide +kernel
theorem d_mm_input_129 : decode b_mm_input 129 = .ok (.iadd, 1) := by decide +kernel
theorem d_mm_input_130 : decode b_mm_input 130 = .ok (.iastore, 1) := by decide +kernel
theorem d_mm_input_131 : decode b_mm_input 131 = .ok (.iconst 1, 1) := by decide +kernel
theorem d_mm_input_132 : decode b_mm_input 132 = .ok (.ireturn, 1) := by decide +kernel
theorem d_mm_output_0 : decode b_mm_output 0 = .ok (.iload_n 2, 1) := by decide +kernel
theorem d_mm_output_1 : decode b_mm_output 1 = .ok (.ifCond .lt 21, 3) := by decide +kernel
theorem d_mm_output_4 : decode b_mm_output 4 = .ok (.iload_n 2, 1) := by decide +kernel
theorem d_mm_output_5 : decode b_mm_output 5 = .ok (.sipush 1000, 3) := by decide +kernel
theorem d_mm_output_8 : decode b_mm_output 8 = .ok (.if_icmp .gt 14, 3) := by decide +kernel
theorem d_mm_output_11 : decode b_mm_output 11 = .ok (.aload_n 0, 1) := by decide +kernel
theorem d_mm_output_12 : decode b_mm_output 12 = .ok (.getfield 13, 3) := by decide +kernel
theorem d_mm_output_15 : decode b_mm_output 15 = .ok (.bipush 40, 2) := by decide +kernel
theorem d_mm_output_17 : decode b_mm_output 17 = .ok (.iaload, 1) := by decide +kernel
theorem d_mm_output_18 : decode b_mm_output 18 = .ok (.iconst 2, 1) := by decide +kernel
theorem d_mm_output_19 : decode b_mm_output 19 = .ok (.if_icmp .ne 5, 3) := by decide +kernel
theorem d_mm_output_22 : decode b_mm_output 22 = .ok (.iconst 0, 1) := by decide +kernel
theorem d_mm_output_23 : decode b_mm_output 23 = .ok (.ireturn, 1) := by decide +kernel
theorem d_mm_output_24 : decode b_mm_output 24 = .ok (.bipush 80, 2) := by decide +kernel
theorem d_mm_output_26 : decode b_mm_output 26 = .ok (.aload_n 0, 1) := by decide +kernel
theorem d_mm_output_27 : decode b_mm_output 27 = .ok (.getfield 13, 3) := by decide +kernel
theorem d_mm_output_30 : decode b_mm_output 30 = .ok (.bipush 40, 2) := by decide +kernel
theorem d_mm_output_32 : decode b_mm_output 32 = .ok (.iaload, 1) := by decide +kernel
theorem d_mm_output_33 : decode b_mm_output 33 = .ok (.iadd, 1) := by decide +kernel
theorem d_mm_output_34 : decode b_mm_output 34 = .ok (.istore_n 3, 1) := by decide +kernel
theorem d_mm_output_35 : decode b_mm_output 35 = .ok (.aload_n 0, 1) := by decide +kernel
theorem d_mm_output_36 : decode b_mm_output 36 = .ok (.getfield 25, 3) := by decide +kernel
theorem d_mm_output_39 : decode b_mm_output 39 = .ok (.iload_n 3, 1) := by decide +kernel
theorem d_mm_output_40 : decode b_mm_output 40 = .ok (.bipush 7, 2) := by decide +kernel
theorem d_mm_output_42 : decode b_mm_output 42 = .ok (.iload_n 1, 1) := by decide +kernel
theorem d_mm_output_43 : decode b_mm_output 43 = .ok (.invokestatic 101, 3) := by decide +kernel
theorem d_mm_output_46 : decode b_mm_output 46 = .ok (.iastore, 1) := by decide +kernel
theorem d_mm_output_47 : decode b_mm_output 47 = .ok (.aload_n 0, 1) := by decide +kernel
theorem d_mm_output_48 : decode b_mm_output 48 = .ok (.getfield 28, 3) := by decide +kernel
theorem d_mm_output_51 : decode b_mm_output 51 = .ok (.iload_n 3, 1) := by decide +kernel
theorem d_mm_output_52 : decode b_mm_output 52 = .ok (.iload_n 2, 1) := by decide +kernel
theorem d_mm_output_53 : decode b_mm_output 53 = .ok (.iastore, 1) := by decide +kernel
theorem d_mm_output_54 : decode b_mm_output 54 = .ok (.aload_n 0, 1) := by decide +kernel
theorem d_mm_output_55 : decode b_mm_output 55 = .ok (.getfield 13, 3) := by decide +kernel
theorem d_mm_output_58 : decode b_mm_output 58 = .ok (.bipush 40, 2) := by decide +kernel
theorem d_mm_output_60 : decode b_mm_output 60 = .ok (.dup2, 1) := by decide +kernel
theorem d_mm_output_61 : decode b_mm_output 61 = .ok (.iaload, 1) := by decide +kernel
theorem d_mm_output_62 : decode b_mm_output 62 = .ok (.iconst 1, 1) := by decide +kernel
theorem d_mm_output_63 : decode b_mm_output 63 = .ok (.iadd, 1) := by decide +kernel
theorem d_mm_output_64 : decode b_mm_output 64 = .ok (.iastore, 1) := by decide +kernel
theorem d_mm_output_65 : decode b_mm_output 65 = .ok (.iconst 1, 1) := by decide +kernel
theorem d_mm_output_66 : decode b_mm_output 66 = .ok (.ireturn, 1) := by decide +kernel
theorem d_mm_transaction_0 : decode b_mm_transaction 0 = .ok (.aload_n 0, 1) := by decide +kernel
theorem d_mm_transaction_1 : decode b_mm_transaction 1 = .ok (.getfield 7, 3) := by decide +kernel
theorem d_mm_transaction_4 : decode b_mm_transaction 4 = .ok (.bipush 40, 2) := by decide +kernel
theorem d_mm_transaction_6 : decode b_mm_transaction 6 = .ok (.iaload, 1) := by decide +kernel
theorem d_mm_transaction_7 : decode b_mm_transaction 7 = .ok (.ifCond .eq 22, 3) := by decide +kernel
theorem d_mm_transaction_10 : decode b_mm_transaction 10 = .ok (.aload_n 0, 1) := by decide +kernel
theorem d_mm_transaction_11 : decode b_mm_transaction 11 = .ok (.getfield 13, 3) := by decide +kernel
theorem d_mm_transaction_14 : decode b_mm_transaction 14 = .ok (.bipush 40, 2) := by decide +kernel
theorem d_mm_transaction_16 : decode b_mm_transaction 16 = .ok (.iaload, 1) := by decide +kernel
theorem d_mm_transaction_17 : decode b_mm_transaction 17 = .ok (.ifCond .eq 12, 3) := by decide +kernel
theorem d_mm_transaction_20 : decode b_mm_transaction 20 = .ok (.aload_n 0, 1) := by decide +kernel
theorem d_mm_transaction_21 : decode b_mm_transaction 21 = .ok (.getfield 110, 3) := by decide +kernel
theorem d_mm_transaction_24 : decode b_mm_transaction 24 = .ok (.bipush 40, 2) := by decide +kernel
theorem d_mm_transaction_26 : decode b_mm_transaction 26 = .ok (.if_icmp .ne 5, 3) := by decide +kernel
theorem d_mm_transaction_29 : decode b_mm_transaction 29 = .ok (.iconst (-1), 1) := by decide +kernel
theorem d_mm_transaction_30 : decode b_mm_transaction 30 = .ok (.ireturn, 1) := by decide +kernel
theorem d_mm_transaction_31 : decode b_mm_transaction 31 = .ok (.aload_n 0, 1) := by decide +kernel
theorem d_mm_transaction_32 : decode b_mm_transaction 32 = .ok (.getfield 110, 3) := by decide +kernel
theorem d_mm_transaction_35 : decode b_mm_transaction 35 = .ok (.istore_n 1, 1) := by decide +kernel
theorem d_mm_transaction_36 : decode b_mm_transaction 36 = .ok (.aload_n 0, 1) := by decide +kernel
theorem d_mm_transaction_37 : decode b_mm_transaction 37 = .ok (.dup, 1) := by decide +kernel
theorem d_mm_transaction_38 : decode b_mm_transaction 38 = .ok (.getfield 110, 3) := by decide +kernel
theorem d_mm_transaction_41 : decode b_mm_transaction 41 = .ok (.iconst 1, 1) := by decide +kernel
theorem d_mm_transaction_42 : decode b_mm_transaction 42 = .ok (.iadd, 1) := by decide +kernel
theorem d_mm_transaction_43 : decode b_mm_transaction 43 = .ok (.putfield 110, 3) := by decide +kernel
theorem d_mm_transaction_46 : decode b_mm_transaction 46 = .ok (.aload_n 0, 1) := by decide +kernel
theorem d_mm_transaction_47 : decode b_mm_transaction 47 = .ok (.getfield 7, 3) := by decide +kernel
theorem d_mm_transaction_50 : decode b_mm_transaction 50 = .ok (.iload_n 1, 1) := by decide +kernel
theorem d_mm_transaction_51 : decode b_mm_transaction 51 = .ok (.aload_n 0, 1) := by decide +kernel
theorem d_mm_transaction_52 : decode b_mm_transaction 52 = .ok (.getfield 7, 3) := by decide +kernel
theorem d_mm_transaction_55 : decode b_mm_transaction 55 = .ok (.bipush 40, 2) := by decide +kernel
theorem d_mm_transaction_57 : decode b_mm_transaction 57 = .ok (.iaload, 1) := by decide +kernel
theorem d_mm_transaction_58 : decode b_mm_transaction 58 = .ok (.iastore, 1) := by decide +kernel
theorem d_mm_transaction_59 : decode b_mm_transaction 59 = .ok (.aload_n 0, 1) := by decide +kernel
theorem d_mm_transaction_60 : decode b_mm_transaction 60 = .ok (.getfield 13, 3) := by decide +kernel
theorem d_mm_transaction_63 : decode b_mm_transaction 63 = .ok (.iload_n 1, 1) := by decide +kernel
theorem d_mm_transaction_64 : decode b_mm_transaction 64 = .ok (.aload_n 0, 1) := by decide +kernel
theorem d_mm_transaction_65 : decode b_mm_transaction 65 = .ok (.getfield 13, 3) := by decide +kernel
theorem d_mm_transaction_68 : decode b_mm_transaction 68 = .ok (.bipush 40, 2) := by decide +kernel
theorem d_mm_transaction_70 : decode b_mm_transaction 70 = .ok (.iaload, 1) := by decide +kernel
theorem d_mm_transaction_71 : decode b_mm_transaction 71 = .ok (.iastore, 1) := by decide +kernel
theorem d_mm_transaction_72 : decode b_mm_transaction 72 = .ok (.bipush 11, 2) := by decide +kernel
theorem d_mm_transaction_74 : decode b_mm_transaction 74 = .ok (.istore_n 2, 1) := by decide +kernel
theorem d_mm_transaction_75 : decode b_mm_transaction 75 = .ok (.iconst 0, 1) := by decide +kernel
theorem d_mm_transaction_76 : decode b_mm_transaction 76 = .ok (.istore_n 3, 1) := by decide +kernel
theorem d_mm_transaction_77 : decode b_mm_transaction 77 = .ok (.iload_n 3, 1) := by decide +kernel
theorem d_mm_transaction_78 : decode b_mm_transaction 78 = .ok (.aload_n 0, 1) := by decide +kernel
theorem d_mm_transaction_79 : decode b_mm_transaction 79 = .ok (.getfield 7, 3) := by decide +kernel
theorem d_mm_transaction_82 : decode b_mm_transaction 82 = .ok (.iload_n 1, 1) := by decide +kernel
theorem d_mm_transaction_83 : decode b_mm_transaction 83 = .ok (.iaload, 1) := by decide +kernel
theorem d_mm_transaction_84 : decode b_mm_transaction 84 = .ok (.if_icmp .ge 135, 3) := by decide +kernel
theorem d_mm_transaction_87 : decode b_mm_transaction 87 = .ok (.aload_n 0, 1) := by decide +kernel
theorem d_mm_transaction_88 : decode b_mm_transaction 88 = .ok (.getfield 16, 3) := by decide +kernel
theorem d_mm_transaction_91 : decode b_mm_transaction 91 = .ok (.iconst 2, 1) := by decide +kernel
theorem d_mm_transaction_92 : decode b_mm_transaction 92 = .ok (.iload_n 1, 1) := by decide +kernel
theorem d_mm_transaction_93 : decode b_mm_transaction 93 = .ok (.imul, 1) := by decide +kernel
theorem d_mm_transaction_94 : decode b_mm_transaction 94 = .ok (.iload_n 3, 1) := by decide +kernel
theorem d_mm_transaction_95 : decode b_mm_transaction 95 = .ok (.iadd, 1) := by decide +kernel
theorem d_mm_transaction_96 : decode b_mm_transaction 96 = .ok (.aload_n 0, 1) := by decide +kernel
theorem d_mm_transaction_97 : decode b_mm_transaction 97 = .ok (.getfield 16, 3) := by decide +kernel
theorem d_mm_transaction_100 : decode b_mm_transaction 100 = .ok (.bipush 80, 2) := by decide +kernel
theorem d_mm_transaction_102 : decode b_mm_transaction 102 = .ok (.iload_n 3, 1) := by decide +kernel
theorem d_mm_transaction_103 : decode b_mm_transaction 103 = .ok (.iadd, 1) := by decide +kernel
theorem d_mm_transaction_104 : decode b_mm_transaction 104 = .ok (.iaload, 1) := by decide +kernel
theorem d_mm_transaction_105 : decode b_mm_transaction 105 = .ok (.iastore, 1) := by decide +kernel
theorem d_mm_transaction_106 : decode b_mm_transaction 106 = .ok (.aload_n 0, 1) := by decide +kernel
theorem d_mm_transaction_107 : decode b_mm_transaction 107 = .ok (.getfield 19, 3) := by decide +kernel
theorem d_mm_transaction_110 : decode b_mm_transaction 110 = .ok (.iconst 2, 1) := by decide +kernel
theorem d_mm_transaction_111 : decode b_mm_transaction 111 = .ok (.iload_n 1, 1) := by decide +kernel
theorem d_mm_transaction_112 : decode b_mm_transaction 112 = .ok (.imul, 1) := by decide +kernel
theorem d_mm_transaction_113 : decode b_mm_transaction 113 = .ok (.iload_n 3, 1) := by decide +kernel
theorem d_mm_transaction_114 : decode b_mm_transaction 114 = .ok (.iadd, 1) := by decide +kernel
theorem d_mm_transaction_115 : decode b_mm_transaction 115 = .ok (.aload_n 0, 1) := by decide +kernel
theorem d_mm_transaction_116 : decode b_mm_transaction 116 = .ok (.getfield 19, 3) := by decide +kernel
theorem d_mm_transaction_119 : decode b_mm_transaction 119 = .ok (.bipush 80, 2) := by decide +kernel
theorem d_mm_transaction_121 : decode b_mm_transaction 121 = .ok (.iload_n 3, 1) := by decide +kernel
theorem d_mm_transaction_122 : decode b_mm_transaction 122 = .ok (.iadd, 1) := by decide +kernel
theorem d_mm_transaction_123 : decode b_mm_transaction 123 = .ok (.iaload, 1) := by decide +kernel
theorem d_mm_transaction_124 : decode b_mm_transaction 124 = .ok (.iastore, 1) := by decide +kernel
theorem d_mm_transaction_125 : decode b_mm_transaction 125 = .ok (.aload_n 0, 1) := by decide +kernel
theorem d_mm_transaction_126 : decode b_mm_transaction 126 = .ok (.getfield 22, 3) := by decide +kernel
theorem d_mm_transaction_129 : decode b_mm_transaction 129 = .ok (.iconst 2, 1) := by decide +kernel
theorem d_mm_transaction_130 : decode b_mm_transaction 130 = .ok (.iload_n 1, 1) := by decide +kernel
theorem d_mm_transaction_131 : decode b_mm_transaction 131 = .ok (.imul, 1) := by decide +kernel
theorem d_mm_transaction_132 : decode b_mm_transaction 132 = .ok (.iload_n 3, 1) := by decide +kernel
theorem d_mm_transaction_133 : decode b_mm_transaction 133 = .ok (.iadd, 1) := by decide +kernel
theorem d_mm_transaction_134 : decode b_mm_transaction 134 = .ok (.aload_n 0, 1) := by decide +kernel
theorem d_mm_transaction_135 : decode b_mm_transaction 135 = .ok (.getfield 22, 3) := by decide +kernel
theorem d_mm_transaction_138 : decode b_mm_transaction 138 = .ok (.bipush 80, 2) := by decide +kernel
theorem d_mm_transaction_140 : decode b_mm_transaction 140 = .ok (.iload_n 3, 1) := by decide +kernel
theorem d_mm_transaction_141 : decode b_mm_transaction 141 = .ok (.iadd, 1) := by decide +kernel
theorem d_mm_transaction_142 : decode b_mm_transaction 142 = .ok (.iaload, 1) := by decide +kernel
theorem d_mm_transaction_143 : decode b_mm_transaction 143 = .ok (.iastore, 1) := by decide +kernel
theorem d_mm_transaction_144 : decode b_mm_transaction 144 = .ok (.aload_n 0, 1) := by decide +kernel
theorem d_mm_transaction_145 : decode b_mm_transaction 145 = .ok (.getfield 16, 3) := by decide +kernel
theorem d_mm_transaction_148 : decode b_mm_transaction 148 = .ok (.bipush 80, 2) := by decide +kernel
theorem d_mm_transaction_150 : decode b_mm_transaction 150 = .ok (.iload_n 3, 1) := by decide +kernel
theorem d_mm_transaction_151 : decode b_mm_transaction 151 = .ok (.iadd, 1) := by decide +kernel
theorem d_mm_transaction_152 : decode b_mm_transaction 152 = .ok (.iaload, 1) := by decide +kernel
theorem d_mm_transaction_153 : decode b_mm_transaction 153 = .ok (.istore 4, 2) := by decide +kernel
