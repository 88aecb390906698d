theorem d_mm_wanted_68 : decode b_mm_wanted 68 = .ok (.iaload, 1) := by decide +kernel
theorem d_mm_wanted_69 : decode b_mm_wanted 69 = .ok (.iload_n 3, 1) := by decide +kernel
theorem d_mm_wanted_70 : decode b_mm_wanted 70 = .ok (.if_icmp .ne 7, 3) := by decide +kernel
theorem d_mm_wanted_73 : decode b_mm_wanted 73 = .ok (.iconst 1, 1) := by decide +kernel
theorem d_mm_wanted_74 : decode b_mm_wanted 74 = .ok (.goto 4, 3) := by decide +kernel
theorem d_mm_wanted_77 : decode b_mm_wanted 77 = .ok (.iconst 0, 1) := by decide +kernel
theorem d_mm_wanted_78 : decode b_mm_wanted 78 = .ok (.istore 4, 2) := by decide +kernel
theorem d_mm_wanted_80 : decode b_mm_wanted 80 = .ok (.iinc 6 1, 3) := by decide +kernel
theorem d_mm_wanted_83 : decode b_mm_wanted 83 = .ok (.goto (-53), 3) := by decide +kernel
theorem d_mm_wanted_86 : decode b_mm_wanted 86 = .ok (.iinc 5 1, 3) := by decide +kernel
theorem d_mm_wanted_89 : decode b_mm_wanted 89 = .ok (.goto (-71), 3) := by decide +kernel
theorem d_mm_wanted_92 : decode b_mm_wanted 92 = .ok (.iload 4, 2) := by decide +kernel
theorem d_mm_wanted_94 : decode b_mm_wanted 94 = .ok (.ifCond .eq 26, 3) := by decide +kernel
theorem d_mm_wanted_97 : decode b_mm_wanted 97 = .ok (.aload_n 0, 1) := by decide +kernel
theorem d_mm_wanted_98 : decode b_mm_wanted 98 = .ok (.getfield 56, 3) := by decide +kernel
theorem d_mm_wanted_101 : decode b_mm_wanted 101 = .ok (.iload_n 3, 1) := by decide +kernel
theorem d_mm_wanted_102 : decode b_mm_wanted 102 = .ok (.invokestatic 125, 3) := by decide +kernel
theorem d_mm_wanted_105 : decode b_mm_wanted 105 = .ok (.ifCond .ne 15, 3) := by decide +kernel
theorem d_mm_wanted_108 : decode b_mm_wanted 108 = .ok (.aload_n 0, 1) := by decide +kernel
theorem d_mm_wanted_109 : decode b_mm_wanted 109 = .ok (.iload_n 3, 1) := by decide +kernel
theorem d_mm_wanted_110 : decode b_mm_wanted 110 = .ok (.invokevirtual 192, 3) := by decide +kernel
theorem d_mm_wanted_113 : decode b_mm_wanted 113 = .ok (.ifCond .ne 7, 3) := by decide +kernel
theorem d_mm_wanted_116 : decode b_mm_wanted 116 = .ok (.iconst 1, 1) := by decide +kernel
theorem d_mm_wanted_117 : decode b_mm_wanted 117 = .ok (.goto 4, 3) := by decide +kernel
theorem d_mm_wanted_120 : decode b_mm_wanted 120 = .ok (.iconst 0, 1) := by decide +kernel
theorem d_mm_wanted_121 : decode b_mm_wanted 121 = .ok (.istore 4, 2) := by decide +kernel
theorem d_mm_wanted_123 : decode b_mm_wanted 123 = .ok (.iload 4, 2) := by decide +kernel
theorem d_mm_wanted_125 : decode b_mm_wanted 125 = .ok (.ifCond .eq 10, 3) := by decide +kernel
theorem d_mm_wanted_128 : decode b_mm_wanted 128 = .ok (.iload_n 2, 1) := by decide +kernel
theorem d_mm_wanted_129 : decode b_mm_wanted 129 = .ok (.iload_n 1, 1) := by decide +kernel
theorem d_mm_wanted_130 : decode b_mm_wanted 130 = .ok (.if_icmp .ne 5, 3) := by decide +kernel
theorem d_mm_wanted_133 : decode b_mm_wanted 133 = .ok (.iload_n 3, 1) := by decide +kernel
theorem d_mm_wanted_134 : decode b_mm_wanted 134 = .ok (.ireturn, 1) := by decide +kernel
theorem d_mm_wanted_135 : decode b_mm_wanted 135 = .ok (.iload 4, 2) := by decide +kernel
theorem d_mm_wanted_137 : decode b_mm_wanted 137 = .ok (.ifCond .eq 9, 3) := by decide +kernel
theorem d_mm_wanted_140 : decode b_mm_wanted 140 = .ok (.iload_n 2, 1) := by decide +kernel
theorem d_mm_wanted_141 : decode b_mm_wanted 141 = .ok (.iconst 1, 1) := by decide +kernel
theorem d_mm_wanted_142 : decode b_mm_wanted 142 = .ok (.iadd, 1) := by decide +kernel
theorem d_mm_wanted_143 : decode b_mm_wanted 143 = .ok (.goto 4, 3) := by decide +kernel
theorem d_mm_wanted_146 : decode b_mm_wanted 146 = .ok (.iload_n 2, 1) := by decide +kernel
theorem d_mm_wanted_147 : decode b_mm_wanted 147 = .ok (.istore_n 2, 1) := by decide +kernel
theorem d_mm_wanted_148 : decode b_mm_wanted 148 = .ok (.iinc 3 1, 3) := by decide +kernel
theorem d_mm_wanted_151 : decode b_mm_wanted 151 = .ok (.goto (-147), 3) := by decide +kernel
theorem d_mm_wanted_154 : decode b_mm_wanted 154 = .ok (.iconst (-1), 1) := by decide +kernel
theorem d_mm_wanted_155 : decode b_mm_wanted 155 = .ok (.ireturn, 1) := by decide +kernel
theorem d_mm_parentOf_0 : decode b_mm_parentOf 0 = .ok (.aload_n 0, 1) := by decide +kernel
theorem d_mm_parentOf_1 : decode b_mm_parentOf 1 = .ok (.iload_n 1, 1) := by decide +kernel
theorem d_mm_parentOf_2 : decode b_mm_parentOf 2 = .ok (.invokevirtual 113, 3) := by decide +kernel
theorem d_mm_parentOf_5 : decode b_mm_parentOf 5 = .ok (.ifCond .eq 17, 3) := by decide +kernel
theorem d_mm_parentOf_8 : decode b_mm_parentOf 8 = .ok (.iload_n 2, 1) := by decide +kernel
theorem d_mm_parentOf_9 : decode b_mm_parentOf 9 = .ok (.ifCond .lt 13, 3) := by decide +kernel
theorem d_mm_parentOf_12 : decode b_mm_parentOf 12 = .ok (.iload_n 2, 1) := by decide +kernel
theorem d_mm_parentOf_13 : decode b_mm_parentOf 13 = .ok (.aload_n 0, 1) := by decide +kernel
theorem d_mm_parentOf_14 : decode b_mm_parentOf 14 = .ok (.getfield 38, 3) := by decide +kernel
theorem d_mm_parentOf_17 : decode b_mm_parentOf 17 = .ok (.iload_n 1, 1) := by decide +kernel
theorem d_mm_parentOf_18 : decode b_mm_parentOf 18 = .ok (.iaload, 1) := by decide +kernel
theorem d_mm_parentOf_19 : decode b_mm_parentOf 19 = .ok (.if_icmp .lt 7, 3) := by decide +kernel
theorem d_mm_parentOf_22 : decode b_mm_parentOf 22 = .ok (.iconst (-1), 1) := by decide +kernel
theorem d_mm_parentOf_23 : decode b_mm_parentOf 23 = .ok (.goto 13, 3) := by decide +kernel
theorem d_mm_parentOf_26 : decode b_mm_parentOf 26 = .ok (.aload_n 0, 1) := by decide +kernel
theorem d_mm_parentOf_27 : decode b_mm_parentOf 27 = .ok (.getfield 41, 3) := by decide +kernel
theorem d_mm_parentOf_30 : decode b_mm_parentOf 30 = .ok (.iconst 4, 1) := by decide +kernel
theorem d_mm_parentOf_31 : decode b_mm_parentOf 31 = .ok (.iload_n 1, 1) := by decide +kernel
theorem d_mm_parentOf_32 : decode b_mm_parentOf 32 = .ok (.imul, 1) := by decide +kernel
theorem d_mm_parentOf_33 : decode b_mm_parentOf 33 = .ok (.iload_n 2, 1) := by decide +kernel
theorem d_mm_parentOf_34 : decode b_mm_parentOf 34 = .ok (.iadd, 1) := by decide +kernel
theorem d_mm_parentOf_35 : decode b_mm_parentOf 35 = .ok (.iaload, 1) := by decide +kernel
theorem d_mm_parentOf_36 : decode b_mm_parentOf 36 = .ok (.ireturn, 1) := by decide +kernel
theorem d_mm_count_0 : decode b_mm_count 0 = .ok (.iconst 0, 1) := by decide +kernel
theorem d_mm_count_1 : decode b_mm_count 1 = .ok (.istore_n 2, 1) := by decide +kernel
theorem d_mm_count_2 : decode b_mm_count 2 = .ok (.iconst 0, 1) := by decide +kernel
theorem d_mm_count_3 : decode b_mm_count 3 = .ok (.istore_n 3, 1) := by decide +kernel
theorem d_mm_count_4 : decode b_mm_count 4 = .ok (.iload_n 3, 1) := by decide +kernel
theorem d_mm_count_5 : decode b_mm_count 5 = .ok (.aload_n 0, 1) := by decide +kernel
theorem d_mm_count_6 : decode b_mm_count 6 = .ok (.getfield 110, 3) := by decide +kernel
theorem d_mm_count_9 : decode b_mm_count 9 = .ok (.if_icmp .ge 26, 3) := by decide +kernel
theorem d_mm_count_12 : decode b_mm_count 12 = .ok (.aload_n 0, 1) := by decide +kernel
theorem d_mm_count_13 : decode b_mm_count 13 = .ok (.getfield 85, 3) := by decide +kernel
theorem d_mm_count_16 : decode b_mm_count 16 = .ok (.iload_n 3, 1) := by decide +kernel
theorem d_mm_count_17 : decode b_mm_count 17 = .ok (.baload, 1) := by decide +kernel
theorem d_mm_count_18 : decode b_mm_count 18 = .ok (.ifCond .eq 9, 3) := by decide +kernel
theorem d_mm_count_21 : decode b_mm_count 21 = .ok (.iload_n 2, 1) := by decide +kernel
theorem d_mm_count_22 : decode b_mm_count 22 = .ok (.iconst 1, 1) := by decide +kernel
theorem d_mm_count_23 : decode b_mm_count 23 = .ok (.iadd, 1) := by decide +kernel
theorem d_mm_count_24 : decode b_mm_count 24 = .ok (.goto 4, 3) := by decide +kernel
theorem d_mm_count_27 : decode b_mm_count 27 = .ok (.iload_n 2, 1) := by decide +kernel
theorem d_mm_count_28 : decode b_mm_count 28 = .ok (.istore_n 2, 1) := by decide +kernel
theorem d_mm_count_29 : decode b_mm_count 29 = .ok (.iinc 3 1, 3) := by decide +kernel
theorem d_mm_count_32 : decode b_mm_count 32 = .ok (.goto (-28), 3) := by decide +kernel
theorem d_mm_count_35 : decode b_mm_count 35 = .ok (.iload_n 1, 1) := by decide +kernel
theorem d_mm_count_36 : decode b_mm_count 36 = .ok (.iconst 4, 1) := by decide +kernel
theorem d_mm_count_37 : decode b_mm_count 37 = .ok (.if_icmp .ge 58, 3) := by decide +kernel
theorem d_mm_count_40 : decode b_mm_count 40 = .ok (.iload_n 1, 1) := by decide +kernel
theorem d_mm_count_41 : decode b_mm_count 41 = .ok (.ifCond .ne 10, 3) := by decide +kernel
theorem d_mm_count_44 : decode b_mm_count 44 = .ok (.aload_n 0, 1) := by decide +kernel
theorem d_mm_count_45 : decode b_mm_count 45 = .ok (.getfield 110, 3) := by decide +kernel
theorem d_mm_count_48 : decode b_mm_count 48 = .ok (.goto 46, 3) := by decide +kernel
theorem d_mm_count_51 : decode b_mm_count 51 = .ok (.iload_n 1, 1) := by decide +kernel
theorem d_mm_count_52 : decode b_mm_count 52 = .ok (.iconst 1, 1) := by decide +kernel
theorem d_mm_count_53 : decode b_mm_count 53 = .ok (.if_icmp .ne 10, 3) := by decide +kernel
theorem d_mm_count_56 : decode b_mm_count 56 = .ok (.aload_n 0, 1) := by decide +kernel
theorem d_mm_count_57 : decode b_mm_count 57 = .ok (.getfield 34, 3) := by decide +kernel
theorem d_mm_count_60 : decode b_mm_count 60 = .ok (.goto 34, 3) := by decide +kernel
theorem d_mm_count_63 : decode b_mm_count 63 = .ok (.iload_n 1, 1) := by decide +kernel
theorem d_mm_count_64 : decode b_mm_count 64 = .ok (.iconst 2, 1) := by decide +kernel
theorem d_mm_count_65 : decode b_mm_count 65 = .ok (.if_icmp .ne 13, 3) := by decide +kernel
theorem d_mm_count_68 : decode b_mm_count 68 = .ok (.aload_n 0, 1) := by decide +kernel
theorem d_mm_count_69 : decode b_mm_count 69 = .ok (.getfield 56, 3) := by decide +kernel
theorem d_mm_count_72 : decode b_mm_count 72 = .ok (.invokestatic 143, 3) := by decide +kernel
theorem d_mm_count_75 : decode b_mm_count 75 = .ok (.goto 19, 3) := by decide +kernel
theorem d_mm_count_78 : decode b_mm_count 78 = .ok (.iload_n 1, 1) := by decide +kernel
theorem d_mm_count_79 : decode b_mm_count 79 = .ok (.iconst 3, 1) := by decide +kernel
theorem d_mm_count_80 : decode b_mm_count 80 = .ok (.if_icmp .ne 13, 3) := by decide +kernel
theorem d_mm_count_83 : decode b_mm_count 83 = .ok (.aload_n 0, 1) := by decide +kernel
theorem d_mm_count_84 : decode b_mm_count 84 = .ok (.invokevirtual 147, 3) := by decide +kernel
theorem d_mm_count_87 : decode b_mm_count 87 = .ok (.invokestatic 143, 3) := by decide +kernel
theorem d_mm_count_90 : decode b_mm_count 90 = .ok (.goto 4, 3) := by decide +kernel
theorem d_mm_count_93 : decode b_mm_count 93 = .ok (.iconst (-1), 1) := by decide +kernel
theorem d_mm_count_94 : decode b_mm_count 94 = .ok (.ireturn, 1) := by decide +kernel
theorem d_mm_count_95 : decode b_mm_count 95 = .ok (.iload_n 1, 1) := by decide +kernel
theorem d_mm_count_96 : decode b_mm_count 96 = .ok (.bipush 7, 2) := by decide +kernel
theorem d_mm_count_98 : decode b_mm_count 98 = .ok (.if_icmp .ge 29, 3) := by decide +kernel
theorem d_mm_count_101 : decode b_mm_count 101 = .ok (.iload_n 1, 1) := by decide +kernel
theorem d_mm_count_102 : decode b_mm_count 102 = .ok (.iconst 4, 1) := by decide +kernel
theorem d_mm_count_103 : decode b_mm_count 103 = .ok (.if_icmp .ne 10, 3) := by decide +kernel
theorem d_mm_count_106 : decode b_mm_count 106 = .ok (.aload_n 0, 1) := by decide +kernel
theorem d_mm_count_107 : decode b_mm_count 107 = .ok (.getfield 186, 3) := by decide +kernel
theorem d_mm_count_110 : decode b_mm_count 110 = .ok (.goto 16, 3) := by decide +kernel
theorem d_mm_count_113 : decode b_mm_count 113 = .ok (.iload_n 1, 1) := by decide +kernel
theorem d_mm_count_114 : decode b_mm_count 114 = .ok (.iconst 5, 1) := by decide +kernel
theorem d_mm_count_115 : decode b_mm_count 115 = .ok (.if_icmp .ne 10, 3) := by decide +kernel
theorem d_mm_count_118 : decode b_mm_count 118 = .ok (.aload_n 0, 1) := by decide +kernel
theorem d_mm_count_119 : decode b_mm_count 119 = .ok (.getfield 183, 3) := by decide +kernel
theorem d_mm_count_122 : decode b_mm_count 122 = .ok (.goto 4, 3) := by decide +kernel
theorem d_mm_count_125 : decode b_mm_count 125 = .ok (.iload_n 2, 1) := by decide +kernel
theorem d_mm_count_126 : decode b_mm_count 126 = .ok (.ireturn, 1) := by decide +kernel
theorem d_mm_count_127 : decode b_mm_count 127 = .ok (.iload_n 1, 1) := by decide +kernel
theorem d_mm_count_128 : decode b_mm_count 128 = .ok (.bipush 7, 2) := by decide +kernel
theorem d_mm_count_130 : decode b_mm_count 130 = .ok (.if_icmp .ne 13, 3) := by decide +kernel
theorem d_mm_count_133 : decode b_mm_count 133 = .ok (.aload_n 0, 1) := by decide +kernel
theorem d_mm_count_134 : decode b_mm_count 134 = .ok (.getfield 67, 3) := by decide +kernel
theorem d_mm_count_137 : decode b_mm_count 137 = .ok (.bipush 60, 2) := by decide +kernel
theorem d_mm_count_139 : decode b_mm_count 139 = .ok (.iaload, 1) := by decide +kernel
theorem d_mm_count_140 : decode b_mm_count 140 = .ok (.goto 51, 3) := by decide +kernel
theorem d_mm_count_143 : decode b_mm_count 143 = .ok (.iload_n 1, 1) := by decide +kernel
theorem d_mm_count_144 : decode b_mm_count 144 = .ok (.bipush 8, 2) := by decide +kernel
theorem d_mm_count_146 : decode b_mm_count 146 = .ok (.if_icmp .ne 13, 3) := by decide +kernel
theorem d_mm_count_149 : decode b_mm_count 149 = .ok (.aload_n 0, 1) := by decide +kernel
theorem d_mm_count_150 : decode b_mm_count 150 = .ok (.getfield 70, 3) := by decide +kernel
theorem d_mm_count_153 : decode b_mm_count 153 = .ok (.bipush 60, 2) := by decide +kernel
theorem d_mm_count_155 : decode b_mm_count 155 = .ok (.iaload, 1) := by decide +kernel
theorem d_mm_count_156 : decode b_mm_count 156 = .ok (.goto 35, 3) := by decide +kernel
theorem d_mm_count_159 : decode b_mm_count 159 = .ok (.iload_n 1, 1) := by decide +kernel
theorem d_mm_count_160 : decode b_mm_count 160 = .ok (.bipush 9, 2) := by decide +kernel
theorem d_mm_count_162 : decode b_mm_count 162 = .ok (.if_icmp .ne 28, 3) := by decide +kernel
theorem d_mm_count_165 : decode b_mm_count 165 = .ok (.aload_n 0, 1) := by decide +kernel
theorem d_mm_count_166 : decode b_mm_count 166 = .ok (.getfield 110, 3) := by decide +kernel
theorem d_mm_count_169 : decode b_mm_count 169 = .ok (.ifCond .ne 7, 3) := by decide +kernel
theorem d_mm_count_172 : decode b_mm_count 172 = .ok (.iconst 0, 1) := by decide +kernel
theorem d_mm_count_173 : decode b_mm_count 173 = .ok (.goto 18, 3) := by decide +kernel
theorem d_mm_count_176 : decode b_mm_count 176 = .ok (.aload_n 0, 1) := by decide +kernel
theorem d_mm_count_177 : decode b_mm_count 177 = .ok (.getfield 31, 3) := by decide +kernel
theorem d_mm_count_180 : decode b_mm_count 180 = .ok (.aload_n 0, 1) := by decide +kernel
theorem d_mm_count_181 : decode b_mm_count 181 = .ok (.getfield 110, 3) := by decide +kernel
theorem d_mm_count_184 : decode b_mm_count 184 = .ok (.iconst 1, 1) := by decide +kernel
theorem d_mm_count_185 : decode b_mm_count 185 = .ok (.isub, 1) := by decide +kernel
theorem d_mm_count_186 : decode b_mm_count 186 = .ok (.iaload, 1) := by decide +kernel
theorem d_mm_count_187 : decode b_mm_count 187 = .ok (.goto 4, 3) := by decide +kernel
theorem d_mm_count_190 : decode b_mm_count 190 = .ok (.iconst (-1), 1) := by decide +kernel
theorem d_mm_count_191 : decode b_mm_count 191 = .ok (.ireturn, 1) := by decide +kernel
theorem d_mm_total_0 : decode b_mm_total 0 = .ok (.iconst 0, 1) := by decide +kernel
theorem d_mm_total_1 : decode b_mm_total 1 = .ok (.istore_n 1, 1) := by decide +kernel
theorem d_mm_total_2 : decode b_mm_total 2 = .ok (.iconst 0, 1) := by decide +kernel
theorem d_mm_total_3 : decode b_mm_total 3 = .ok (.istore_n 2, 1) := by decide +kernel
theorem d_mm_total_4 : decode b_mm_total 4 = .ok (.iload_n 2, 1) := by decide +kernel
theorem d_mm_total_5 : decode b_mm_total 5 = .ok (.aload_n 0, 1) := by decide +kernel
theorem d_mm_total_6 : decode b_mm_total 6 = .ok (.getfield 110, 3) := by decide +kernel
theorem d_mm_total_9 : decode b_mm_total 9 = .ok (.if_icmp .ge 52, 3) := by decide +kernel
theorem d_mm_total_12 : decode b_mm_total 12 = .ok (.iconst 0, 1) := by decide +kernel
theorem d_mm_total_13 : decode b_mm_total 13 = .ok (.istore_n 3, 1) := by decide +kernel
theorem d_mm_total_14 : decode b_mm_total 14 = .ok (.iload_n 3, 1) := by decide +kernel
theorem d_mm_total_15 : decode b_mm_total 15 = .ok (.iconst 2, 1) := by decide +kernel
theorem d_mm_total_16 : decode b_mm_total 16 = .ok (.if_icmp .ge 39, 3) := by decide +kernel
theorem d_mm_total_19 : decode b_mm_total 19 = .ok (.aload_n 0, 1) := by decide +kernel
theorem d_mm_total_20 : decode b_mm_total 20 = .ok (.getfield 89, 3) := by decide +kernel
theorem d_mm_total_23 : decode b_mm_total 23 = .ok (.iconst 2, 1) := by decide +kernel
theorem d_mm_total_24 : decode b_mm_total 24 = .ok (.iload_n 2, 1) := by decide +kernel
theorem d_mm_total_25 : decode b_mm_total 25 = .ok (.imul, 1) := by decide +kernel
theorem d_mm_total_26 : decode b_mm_total 26 = .ok (.iload_n 3, 1) := by decide +kernel
theorem d_mm_total_27 : decode b_mm_total 27 = .ok (.iadd, 1) := by decide +kernel
theorem d_mm_total_28 : decode b_mm_total 28 = .ok (.baload, 1) := by decide +kernel
theorem d_mm_total_29 : decode b_mm_total 29 = .ok (.ifCond .eq 18, 3) := by decide +kernel
theorem d_mm_total_32 : decode b_mm_total 32 = .ok (.iload_n 1, 1) := by decide +kernel
theorem d_mm_total_33 : decode b_mm_total 33 = .ok (.aload_n 0, 1) := by decide +kernel
theorem d_mm_total_34 : decode b_mm_total 34 = .ok (.getfield 28, 3) := by decide +kernel
theorem d_mm_total_37 : decode b_mm_total 37 = .ok (.iconst 2, 1) := by decide +kernel
theorem d_mm_total_38 : decode b_mm_total 38 = .ok (.iload_n 2, 1) := by decide +kernel
theorem d_mm_total_39 : decode b_mm_total 39 = .ok (.imul, 1) := by decide +kernel
theorem d_mm_total_40 : decode b_mm_total 40 = .ok (.iload_n 3, 1) := by decide +kernel
theorem d_mm_total_41 : decode b_mm_total 41 = .ok (.iadd, 1) := by decide +kernel
theorem d_mm_total_42 : decode b_mm_total 42 = .ok (.iaload, 1) := by decide +kernel
theorem d_mm_total_43 : decode b_mm_total 43 = .ok (.iadd, 1) := by decide +kernel
theorem d_mm_total_44 : decode b_mm_total 44 = .ok (.goto 4, 3) := by decide +kernel
theorem d_mm_total_47 : decode b_mm_total 47 = .ok (.iload_n 1, 1) := by decide +kernel
theorem d_mm_total_48 : decode b_mm_total 48 = .ok (.istore_n 1, 1) := by decide +kernel
theorem d_mm_total_49 : decode b_mm_total 49 = .ok (.iinc 3 1, 3) := by decide +kernel
theorem d_mm_total_52 : decode b_mm_total 52 = .ok (.goto (-38), 3) := by decide +kernel
theorem d_mm_total_55 : decode b_mm_total 55 = .ok (.iinc 2 1, 3) := by decide +kernel
theorem d_mm_total_58 : decode b_mm_total 58 = .ok (.goto (-54), 3) := by decide +kernel
theorem d_mm_total_61 : decode b_mm_total 61 = .ok (.iconst 0, 1) := by decide +kernel
theorem d_mm_total_62 : decode b_mm_total 62 = .ok (.istore_n 2, 1) := by decide +kernel
theorem d_mm_total_63 : decode b_mm_total 63 = .ok (.iload_n 2, 1) := by decide +kernel
theorem d_mm_total_64 : decode b_mm_total 64 = .ok (.aload_n 0, 1) := by decide +kernel
theorem d_mm_total_65 : decode b_mm_total 65 = .ok (.getfield 34, 3) := by decide +kernel
theorem d_mm_total_68 : decode b_mm_total 68 = .ok (.if_icmp .ge 31, 3) := by decide +kernel
theorem d_mm_total_71 : decode b_mm_total 71 = .ok (.aload_n 0, 1) := by decide +kernel
theorem d_mm_total_72 : decode b_mm_total 72 = .ok (.getfield 92, 3) := by decide +kernel
theorem d_mm_total_75 : decode b_mm_total 75 = .ok (.iload_n 2, 1) := by decide +kernel
theorem d_mm_total_76 : decode b_mm_total 76 = .ok (.baload, 1) := by decide +kernel
theorem d_mm_total_77 : decode b_mm_total 77 = .ok (.ifCond .eq 14, 3) := by decide +kernel
theorem d_mm_total_80 : decode b_mm_total 80 = .ok (.iload_n 1, 1) := by decide +kernel
theorem d_mm_total_81 : decode b_mm_total 81 = .ok (.aload_n 0, 1) := by decide +kernel
theorem d_mm_total_82 : decode b_mm_total 82 = .ok (.getfield 95, 3) := by decide +kernel
theorem d_mm_total_85 : decode b_mm_total 85 = .ok (.iload_n 2, 1) := by decide +kernel
theorem d_mm_total_86 : decode b_mm_total 86 = .ok (.iaload, 1) := by decide +kernel
theorem d_mm_total_87 : decode b_mm_total 87 = .ok (.iadd, 1) := by decide +kernel
theorem d_mm_total_88 : decode b_mm_total 88 = .ok (.goto 4, 3) := by decide +kernel
theorem d_mm_total_91 : decode b_mm_total 91 = .ok (.iload_n 1, 1) := by decide +kernel
theorem d_mm_total_92 : decode b_mm_total 92 = .ok (.istore_n 1, 1) := by decide +kernel
theorem d_mm_total_93 : decode b_mm_total 93 = .ok (.iinc 2 1, 3) := by decide +kernel
theorem d_mm_total_96 : decode b_mm_total 96 = .ok (.goto (-33), 3) := by decide +kernel
theorem d_mm_total_99 : decode b_mm_total 99 = .ok (.iload_n 1, 1) := by decide +kernel
theorem d_mm_total_100 : decode b_mm_total 100 = .ok (.ireturn, 1) := by decide +kernel
