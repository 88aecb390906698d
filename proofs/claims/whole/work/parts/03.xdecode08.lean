theorem d_mm_enter_38 : decode b_mm_enter 38 = .ok (.aload_n 0, 1) := by decide +kernel
theorem d_mm_enter_39 : decode b_mm_enter 39 = .ok (.iload_n 1, 1) := by decide +kernel
theorem d_mm_enter_40 : decode b_mm_enter 40 = .ok (.lload_n 2, 1) := by decide +kernel
theorem d_mm_enter_41 : decode b_mm_enter 41 = .ok (.invokevirtual 151, 3) := by decide +kernel
theorem d_mm_enter_44 : decode b_mm_enter 44 = .ok (.aload_n 0, 1) := by decide +kernel
theorem d_mm_enter_45 : decode b_mm_enter 45 = .ok (.aload_n 0, 1) := by decide +kernel
theorem d_mm_enter_46 : decode b_mm_enter 46 = .ok (.getfield 56, 3) := by decide +kernel
theorem d_mm_enter_49 : decode b_mm_enter 49 = .ok (.lconst 1, 1) := by decide +kernel
theorem d_mm_enter_50 : decode b_mm_enter 50 = .ok (.iload_n 1, 1) := by decide +kernel
theorem d_mm_enter_51 : decode b_mm_enter 51 = .ok (.lshl, 1) := by decide +kernel
theorem d_mm_enter_52 : decode b_mm_enter 52 = .ok (.lor, 1) := by decide +kernel
theorem d_mm_enter_53 : decode b_mm_enter 53 = .ok (.putfield 56, 3) := by decide +kernel
theorem d_mm_enter_56 : decode b_mm_enter 56 = .ok (.return_, 1) := by decide +kernel
theorem d_mm_removeOrphan_0 : decode b_mm_removeOrphan 0 = .ok (.aload_n 0, 1) := by decide +kernel
theorem d_mm_removeOrphan_1 : decode b_mm_removeOrphan 1 = .ok (.dup, 1) := by decide +kernel
theorem d_mm_removeOrphan_2 : decode b_mm_removeOrphan 2 = .ok (.getfield 186, 3) := by decide +kernel
theorem d_mm_removeOrphan_5 : decode b_mm_removeOrphan 5 = .ok (.iconst 1, 1) := by decide +kernel
theorem d_mm_removeOrphan_6 : decode b_mm_removeOrphan 6 = .ok (.isub, 1) := by decide +kernel
theorem d_mm_removeOrphan_7 : decode b_mm_removeOrphan 7 = .ok (.putfield 186, 3) := by decide +kernel
theorem d_mm_removeOrphan_10 : decode b_mm_removeOrphan 10 = .ok (.iload_n 1, 1) := by decide +kernel
theorem d_mm_removeOrphan_11 : decode b_mm_removeOrphan 11 = .ok (.istore_n 2, 1) := by decide +kernel
theorem d_mm_removeOrphan_12 : decode b_mm_removeOrphan 12 = .ok (.iload_n 2, 1) := by decide +kernel
theorem d_mm_removeOrphan_13 : decode b_mm_removeOrphan 13 = .ok (.aload_n 0, 1) := by decide +kernel
theorem d_mm_removeOrphan_14 : decode b_mm_removeOrphan 14 = .ok (.getfield 186, 3) := by decide +kernel
theorem d_mm_removeOrphan_17 : decode b_mm_removeOrphan 17 = .ok (.if_icmp .ge 23, 3) := by decide +kernel
theorem d_mm_removeOrphan_20 : decode b_mm_removeOrphan 20 = .ok (.aload_n 0, 1) := by decide +kernel
theorem d_mm_removeOrphan_21 : decode b_mm_removeOrphan 21 = .ok (.getfield 73, 3) := by decide +kernel
theorem d_mm_removeOrphan_24 : decode b_mm_removeOrphan 24 = .ok (.iload_n 2, 1) := by decide +kernel
theorem d_mm_removeOrphan_25 : decode b_mm_removeOrphan 25 = .ok (.aload_n 0, 1) := by decide +kernel
theorem d_mm_removeOrphan_26 : decode b_mm_removeOrphan 26 = .ok (.getfield 73, 3) := by decide +kernel
theorem d_mm_removeOrphan_29 : decode b_mm_removeOrphan 29 = .ok (.iload_n 2, 1) := by decide +kernel
theorem d_mm_removeOrphan_30 : decode b_mm_removeOrphan 30 = .ok (.iconst 1, 1) := by decide +kernel
theorem d_mm_removeOrphan_31 : decode b_mm_removeOrphan 31 = .ok (.iadd, 1) := by decide +kernel
theorem d_mm_removeOrphan_32 : decode b_mm_removeOrphan 32 = .ok (.iaload, 1) := by decide +kernel
theorem d_mm_removeOrphan_33 : decode b_mm_removeOrphan 33 = .ok (.iastore, 1) := by decide +kernel
theorem d_mm_removeOrphan_34 : decode b_mm_removeOrphan 34 = .ok (.iinc 2 1, 3) := by decide +kernel
theorem d_mm_removeOrphan_37 : decode b_mm_removeOrphan 37 = .ok (.goto (-25), 3) := by decide +kernel
theorem d_mm_removeOrphan_40 : decode b_mm_removeOrphan 40 = .ok (.return_, 1) := by decide +kernel
theorem d_mm_ripe_0 : decode b_mm_ripe 0 = .ok (.iconst (-1), 1) := by decide +kernel
theorem d_mm_ripe_1 : decode b_mm_ripe 1 = .ok (.istore_n 1, 1) := by decide +kernel
theorem d_mm_ripe_2 : decode b_mm_ripe 2 = .ok (.iconst 0, 1) := by decide +kernel
theorem d_mm_ripe_3 : decode b_mm_ripe 3 = .ok (.istore_n 2, 1) := by decide +kernel
theorem d_mm_ripe_4 : decode b_mm_ripe 4 = .ok (.iload_n 2, 1) := by decide +kernel
theorem d_mm_ripe_5 : decode b_mm_ripe 5 = .ok (.aload_n 0, 1) := by decide +kernel
theorem d_mm_ripe_6 : decode b_mm_ripe 6 = .ok (.getfield 186, 3) := by decide +kernel
theorem d_mm_ripe_9 : decode b_mm_ripe 9 = .ok (.if_icmp .ge 57, 3) := by decide +kernel
theorem d_mm_ripe_12 : decode b_mm_ripe 12 = .ok (.aload_n 0, 1) := by decide +kernel
theorem d_mm_ripe_13 : decode b_mm_ripe 13 = .ok (.aload_n 0, 1) := by decide +kernel
theorem d_mm_ripe_14 : decode b_mm_ripe 14 = .ok (.getfield 73, 3) := by decide +kernel
theorem d_mm_ripe_17 : decode b_mm_ripe 17 = .ok (.iload_n 2, 1) := by decide +kernel
theorem d_mm_ripe_18 : decode b_mm_ripe 18 = .ok (.iaload, 1) := by decide +kernel
theorem d_mm_ripe_19 : decode b_mm_ripe 19 = .ok (.invokevirtual 189, 3) := by decide +kernel
theorem d_mm_ripe_22 : decode b_mm_ripe 22 = .ok (.ifCond .eq 26, 3) := by decide +kernel
theorem d_mm_ripe_25 : decode b_mm_ripe 25 = .ok (.iload_n 1, 1) := by decide +kernel
theorem d_mm_ripe_26 : decode b_mm_ripe 26 = .ok (.ifCond .lt 18, 3) := by decide +kernel
theorem d_mm_ripe_29 : decode b_mm_ripe 29 = .ok (.aload_n 0, 1) := by decide +kernel
theorem d_mm_ripe_30 : decode b_mm_ripe 30 = .ok (.getfield 73, 3) := by decide +kernel
theorem d_mm_ripe_33 : decode b_mm_ripe 33 = .ok (.iload_n 2, 1) := by decide +kernel
theorem d_mm_ripe_34 : decode b_mm_ripe 34 = .ok (.iaload, 1) := by decide +kernel
theorem d_mm_ripe_35 : decode b_mm_ripe 35 = .ok (.aload_n 0, 1) := by decide +kernel
theorem d_mm_ripe_36 : decode b_mm_ripe 36 = .ok (.getfield 73, 3) := by decide +kernel
theorem d_mm_ripe_39 : decode b_mm_ripe 39 = .ok (.iload_n 1, 1) := by decide +kernel
theorem d_mm_ripe_40 : decode b_mm_ripe 40 = .ok (.iaload, 1) := by decide +kernel
theorem d_mm_ripe_41 : decode b_mm_ripe 41 = .ok (.if_icmp .ge 7, 3) := by decide +kernel
theorem d_mm_ripe_44 : decode b_mm_ripe 44 = .ok (.iconst 1, 1) := by decide +kernel
theorem d_mm_ripe_45 : decode b_mm_ripe 45 = .ok (.goto 4, 3) := by decide +kernel
theorem d_mm_ripe_48 : decode b_mm_ripe 48 = .ok (.iconst 0, 1) := by decide +kernel
theorem d_mm_ripe_49 : decode b_mm_ripe 49 = .ok (.istore_n 3, 1) := by decide +kernel
theorem d_mm_ripe_50 : decode b_mm_ripe 50 = .ok (.iload_n 3, 1) := by decide +kernel
theorem d_mm_ripe_51 : decode b_mm_ripe 51 = .ok (.ifCond .eq 7, 3) := by decide +kernel
theorem d_mm_ripe_54 : decode b_mm_ripe 54 = .ok (.iload_n 2, 1) := by decide +kernel
theorem d_mm_ripe_55 : decode b_mm_ripe 55 = .ok (.goto 4, 3) := by decide +kernel
theorem d_mm_ripe_58 : decode b_mm_ripe 58 = .ok (.iload_n 1, 1) := by decide +kernel
theorem d_mm_ripe_59 : decode b_mm_ripe 59 = .ok (.istore_n 1, 1) := by decide +kernel
theorem d_mm_ripe_60 : decode b_mm_ripe 60 = .ok (.iinc 2 1, 3) := by decide +kernel
theorem d_mm_ripe_63 : decode b_mm_ripe 63 = .ok (.goto (-59), 3) := by decide +kernel
theorem d_mm_ripe_66 : decode b_mm_ripe 66 = .ok (.iload_n 1, 1) := by decide +kernel
theorem d_mm_ripe_67 : decode b_mm_ripe 67 = .ok (.ireturn, 1) := by decide +kernel
theorem d_mm_receive_0 : decode b_mm_receive 0 = .ok (.aload_n 0, 1) := by decide +kernel
theorem d_mm_receive_1 : decode b_mm_receive 1 = .ok (.iload_n 1, 1) := by decide +kernel
theorem d_mm_receive_2 : decode b_mm_receive 2 = .ok (.invokevirtual 113, 3) := by decide +kernel
theorem d_mm_receive_5 : decode b_mm_receive 5 = .ok (.ifCond .ne 5, 3) := by decide +kernel
theorem d_mm_receive_8 : decode b_mm_receive 8 = .ok (.iconst (-1), 1) := by decide +kernel
theorem d_mm_receive_9 : decode b_mm_receive 9 = .ok (.ireturn, 1) := by decide +kernel
theorem d_mm_receive_10 : decode b_mm_receive 10 = .ok (.iload_n 1, 1) := by decide +kernel
theorem d_mm_receive_11 : decode b_mm_receive 11 = .ok (.ifCond .le 17, 3) := by decide +kernel
theorem d_mm_receive_14 : decode b_mm_receive 14 = .ok (.aload_n 0, 1) := by decide +kernel
theorem d_mm_receive_15 : decode b_mm_receive 15 = .ok (.getfield 53, 3) := by decide +kernel
theorem d_mm_receive_18 : decode b_mm_receive 18 = .ok (.iload_n 1, 1) := by decide +kernel
theorem d_mm_receive_19 : decode b_mm_receive 19 = .ok (.iaload, 1) := by decide +kernel
theorem d_mm_receive_20 : decode b_mm_receive 20 = .ok (.ldc 120, 2) := by decide +kernel
theorem d_mm_receive_22 : decode b_mm_receive 22 = .ok (.if_icmp .lt 6, 3) := by decide +kernel
theorem d_mm_receive_25 : decode b_mm_receive 25 = .ok (.bipush (-2), 2) := by decide +kernel
theorem d_mm_receive_27 : decode b_mm_receive 27 = .ok (.ireturn, 1) := by decide +kernel
theorem d_mm_receive_28 : decode b_mm_receive 28 = .ok (.aload_n 0, 1) := by decide +kernel
theorem d_mm_receive_29 : decode b_mm_receive 29 = .ok (.getfield 56, 3) := by decide +kernel
theorem d_mm_receive_32 : decode b_mm_receive 32 = .ok (.iload_n 1, 1) := by decide +kernel
theorem d_mm_receive_33 : decode b_mm_receive 33 = .ok (.invokestatic 125, 3) := by decide +kernel
theorem d_mm_receive_36 : decode b_mm_receive 36 = .ok (.ifCond .ne 11, 3) := by decide +kernel
theorem d_mm_receive_39 : decode b_mm_receive 39 = .ok (.aload_n 0, 1) := by decide +kernel
theorem d_mm_receive_40 : decode b_mm_receive 40 = .ok (.iload_n 1, 1) := by decide +kernel
theorem d_mm_receive_41 : decode b_mm_receive 41 = .ok (.invokevirtual 192, 3) := by decide +kernel
theorem d_mm_receive_44 : decode b_mm_receive 44 = .ok (.ifCond .eq 6, 3) := by decide +kernel
theorem d_mm_receive_47 : decode b_mm_receive 47 = .ok (.bipush (-3), 2) := by decide +kernel
theorem d_mm_receive_49 : decode b_mm_receive 49 = .ok (.ireturn, 1) := by decide +kernel
theorem d_mm_receive_50 : decode b_mm_receive 50 = .ok (.aload_n 0, 1) := by decide +kernel
theorem d_mm_receive_51 : decode b_mm_receive 51 = .ok (.iload_n 1, 1) := by decide +kernel
theorem d_mm_receive_52 : decode b_mm_receive 52 = .ok (.invokevirtual 189, 3) := by decide +kernel
theorem d_mm_receive_55 : decode b_mm_receive 55 = .ok (.ifCond .ne 38, 3) := by decide +kernel
theorem d_mm_receive_58 : decode b_mm_receive 58 = .ok (.aload_n 0, 1) := by decide +kernel
theorem d_mm_receive_59 : decode b_mm_receive 59 = .ok (.getfield 186, 3) := by decide +kernel
theorem d_mm_receive_62 : decode b_mm_receive 62 = .ok (.iconst 4, 1) := by decide +kernel
theorem d_mm_receive_63 : decode b_mm_receive 63 = .ok (.if_icmp .ne 8, 3) := by decide +kernel
theorem d_mm_receive_66 : decode b_mm_receive 66 = .ok (.aload_n 0, 1) := by decide +kernel
theorem d_mm_receive_67 : decode b_mm_receive 67 = .ok (.iconst 0, 1) := by decide +kernel
theorem d_mm_receive_68 : decode b_mm_receive 68 = .ok (.invokevirtual 195, 3) := by decide +kernel
theorem d_mm_receive_71 : decode b_mm_receive 71 = .ok (.aload_n 0, 1) := by decide +kernel
theorem d_mm_receive_72 : decode b_mm_receive 72 = .ok (.getfield 73, 3) := by decide +kernel
theorem d_mm_receive_75 : decode b_mm_receive 75 = .ok (.aload_n 0, 1) := by decide +kernel
theorem d_mm_receive_76 : decode b_mm_receive 76 = .ok (.getfield 186, 3) := by decide +kernel
theorem d_mm_receive_79 : decode b_mm_receive 79 = .ok (.iload_n 1, 1) := by decide +kernel
theorem d_mm_receive_80 : decode b_mm_receive 80 = .ok (.iastore, 1) := by decide +kernel
theorem d_mm_receive_81 : decode b_mm_receive 81 = .ok (.aload_n 0, 1) := by decide +kernel
theorem d_mm_receive_82 : decode b_mm_receive 82 = .ok (.dup, 1) := by decide +kernel
theorem d_mm_receive_83 : decode b_mm_receive 83 = .ok (.getfield 186, 3) := by decide +kernel
theorem d_mm_receive_86 : decode b_mm_receive 86 = .ok (.iconst 1, 1) := by decide +kernel
theorem d_mm_receive_87 : decode b_mm_receive 87 = .ok (.iadd, 1) := by decide +kernel
theorem d_mm_receive_88 : decode b_mm_receive 88 = .ok (.putfield 186, 3) := by decide +kernel
theorem d_mm_receive_91 : decode b_mm_receive 91 = .ok (.iconst 1, 1) := by decide +kernel
theorem d_mm_receive_92 : decode b_mm_receive 92 = .ok (.ireturn, 1) := by decide +kernel
theorem d_mm_receive_93 : decode b_mm_receive 93 = .ok (.aload_n 0, 1) := by decide +kernel
theorem d_mm_receive_94 : decode b_mm_receive 94 = .ok (.iload_n 1, 1) := by decide +kernel
theorem d_mm_receive_95 : decode b_mm_receive 95 = .ok (.invokevirtual 198, 3) := by decide +kernel
theorem d_mm_receive_98 : decode b_mm_receive 98 = .ok (.ifCond .eq 6, 3) := by decide +kernel
theorem d_mm_receive_101 : decode b_mm_receive 101 = .ok (.bipush (-4), 2) := by decide +kernel
theorem d_mm_receive_103 : decode b_mm_receive 103 = .ok (.ireturn, 1) := by decide +kernel
theorem d_mm_receive_104 : decode b_mm_receive 104 = .ok (.aload_n 0, 1) := by decide +kernel
theorem d_mm_receive_105 : decode b_mm_receive 105 = .ok (.iload_n 1, 1) := by decide +kernel
theorem d_mm_receive_106 : decode b_mm_receive 106 = .ok (.invokevirtual 201, 3) := by decide +kernel
theorem d_mm_receive_109 : decode b_mm_receive 109 = .ok (.aload_n 0, 1) := by decide +kernel
theorem d_mm_receive_110 : decode b_mm_receive 110 = .ok (.invokevirtual 204, 3) := by decide +kernel
theorem d_mm_receive_113 : decode b_mm_receive 113 = .ok (.istore_n 2, 1) := by decide +kernel
theorem d_mm_receive_114 : decode b_mm_receive 114 = .ok (.iload_n 2, 1) := by decide +kernel
theorem d_mm_receive_115 : decode b_mm_receive 115 = .ok (.ifCond .lt 36, 3) := by decide +kernel
theorem d_mm_receive_118 : decode b_mm_receive 118 = .ok (.aload_n 0, 1) := by decide +kernel
theorem d_mm_receive_119 : decode b_mm_receive 119 = .ok (.getfield 73, 3) := by decide +kernel
theorem d_mm_receive_122 : decode b_mm_receive 122 = .ok (.iload_n 2, 1) := by decide +kernel
theorem d_mm_receive_123 : decode b_mm_receive 123 = .ok (.iaload, 1) := by decide +kernel
theorem d_mm_receive_124 : decode b_mm_receive 124 = .ok (.istore_n 3, 1) := by decide +kernel
theorem d_mm_receive_125 : decode b_mm_receive 125 = .ok (.aload_n 0, 1) := by decide +kernel
theorem d_mm_receive_126 : decode b_mm_receive 126 = .ok (.iload_n 2, 1) := by decide +kernel
theorem d_mm_receive_127 : decode b_mm_receive 127 = .ok (.invokevirtual 195, 3) := by decide +kernel
theorem d_mm_receive_130 : decode b_mm_receive 130 = .ok (.aload_n 0, 1) := by decide +kernel
theorem d_mm_receive_131 : decode b_mm_receive 131 = .ok (.iload_n 3, 1) := by decide +kernel
theorem d_mm_receive_132 : decode b_mm_receive 132 = .ok (.invokevirtual 198, 3) := by decide +kernel
theorem d_mm_receive_135 : decode b_mm_receive 135 = .ok (.ifCond .ne 8, 3) := by decide +kernel
theorem d_mm_receive_138 : decode b_mm_receive 138 = .ok (.aload_n 0, 1) := by decide +kernel
theorem d_mm_receive_139 : decode b_mm_receive 139 = .ok (.iload_n 3, 1) := by decide +kernel
theorem d_mm_receive_140 : decode b_mm_receive 140 = .ok (.invokevirtual 201, 3) := by decide +kernel
theorem d_mm_receive_143 : decode b_mm_receive 143 = .ok (.aload_n 0, 1) := by decide +kernel
theorem d_mm_receive_144 : decode b_mm_receive 144 = .ok (.invokevirtual 204, 3) := by decide +kernel
theorem d_mm_receive_147 : decode b_mm_receive 147 = .ok (.istore_n 2, 1) := by decide +kernel
theorem d_mm_receive_148 : decode b_mm_receive 148 = .ok (.goto (-34), 3) := by decide +kernel
theorem d_mm_receive_151 : decode b_mm_receive 151 = .ok (.aload_n 0, 1) := by decide +kernel
theorem d_mm_receive_152 : decode b_mm_receive 152 = .ok (.invokevirtual 208, 3) := by decide +kernel
theorem d_mm_receive_155 : decode b_mm_receive 155 = .ok (.aload_n 0, 1) := by decide +kernel
theorem d_mm_receive_156 : decode b_mm_receive 156 = .ok (.invokevirtual 106, 3) := by decide +kernel
theorem d_mm_receive_159 : decode b_mm_receive 159 = .ok (.iconst 0, 1) := by decide +kernel
theorem d_mm_receive_160 : decode b_mm_receive 160 = .ok (.ireturn, 1) := by decide +kernel
theorem d_mm_submit_0 : decode b_mm_submit 0 = .ok (.iload_n 1, 1) := by decide +kernel
theorem d_mm_submit_1 : decode b_mm_submit 1 = .ok (.ifCond .lt 11, 3) := by decide +kernel
theorem d_mm_submit_4 : decode b_mm_submit 4 = .ok (.iload_n 1, 1) := by decide +kernel
theorem d_mm_submit_5 : decode b_mm_submit 5 = .ok (.aload_n 0, 1) := by decide +kernel
theorem d_mm_submit_6 : decode b_mm_submit 6 = .ok (.getfield 110, 3) := by decide +kernel
theorem d_mm_submit_9 : decode b_mm_submit 9 = .ok (.if_icmp .lt 5, 3) := by decide +kernel
theorem d_mm_submit_12 : decode b_mm_submit 12 = .ok (.iconst (-1), 1) := by decide +kernel
theorem d_mm_submit_13 : decode b_mm_submit 13 = .ok (.ireturn, 1) := by decide +kernel
theorem d_mm_submit_14 : decode b_mm_submit 14 = .ok (.aload_n 0, 1) := by decide +kernel
theorem d_mm_submit_15 : decode b_mm_submit 15 = .ok (.getfield 85, 3) := by decide +kernel
theorem d_mm_submit_18 : decode b_mm_submit 18 = .ok (.iload_n 1, 1) := by decide +kernel
theorem d_mm_submit_19 : decode b_mm_submit 19 = .ok (.baload, 1) := by decide +kernel
theorem d_mm_submit_20 : decode b_mm_submit 20 = .ok (.istore_n 2, 1) := by decide +kernel
theorem d_mm_submit_21 : decode b_mm_submit 21 = .ok (.iconst 0, 1) := by decide +kernel
theorem d_mm_submit_22 : decode b_mm_submit 22 = .ok (.istore_n 3, 1) := by decide +kernel
theorem d_mm_submit_23 : decode b_mm_submit 23 = .ok (.iload_n 3, 1) := by decide +kernel
theorem d_mm_submit_24 : decode b_mm_submit 24 = .ok (.aload_n 0, 1) := by decide +kernel
theorem d_mm_submit_25 : decode b_mm_submit 25 = .ok (.getfield 183, 3) := by decide +kernel
theorem d_mm_submit_28 : decode b_mm_submit 28 = .ok (.if_icmp .ge 29, 3) := by decide +kernel
theorem d_mm_submit_31 : decode b_mm_submit 31 = .ok (.iload_n 2, 1) := by decide +kernel
theorem d_mm_submit_32 : decode b_mm_submit 32 = .ok (.ifCond .ne 13, 3) := by decide +kernel
theorem d_mm_submit_35 : decode b_mm_submit 35 = .ok (.aload_n 0, 1) := by decide +kernel
theorem d_mm_submit_36 : decode b_mm_submit 36 = .ok (.getfield 76, 3) := by decide +kernel
theorem d_mm_submit_39 : decode b_mm_submit 39 = .ok (.iload_n 3, 1) := by decide +kernel
theorem d_mm_submit_40 : decode b_mm_submit 40 = .ok (.iaload, 1) := by decide +kernel
theorem d_mm_submit_41 : decode b_mm_submit 41 = .ok (.iload_n 1, 1) := by decide +kernel
theorem d_mm_submit_42 : decode b_mm_submit 42 = .ok (.if_icmp .ne 7, 3) := by decide +kernel
theorem d_mm_submit_45 : decode b_mm_submit 45 = .ok (.iconst 1, 1) := by decide +kernel
theorem d_mm_submit_46 : decode b_mm_submit 46 = .ok (.goto 4, 3) := by decide +kernel
theorem d_mm_submit_49 : decode b_mm_submit 49 = .ok (.iconst 0, 1) := by decide +kernel
theorem d_mm_submit_50 : decode b_mm_submit 50 = .ok (.istore_n 2, 1) := by decide +kernel
theorem d_mm_submit_51 : decode b_mm_submit 51 = .ok (.iinc 3 1, 3) := by decide +kernel
theorem d_mm_submit_54 : decode b_mm_submit 54 = .ok (.goto (-31), 3) := by decide +kernel
theorem d_mm_submit_57 : decode b_mm_submit 57 = .ok (.iload_n 2, 1) := by decide +kernel
theorem d_mm_submit_58 : decode b_mm_submit 58 = .ok (.ifCond .eq 6, 3) := by decide +kernel
theorem d_mm_submit_61 : decode b_mm_submit 61 = .ok (.bipush (-2), 2) := by decide +kernel
theorem d_mm_submit_63 : decode b_mm_submit 63 = .ok (.ireturn, 1) := by decide +kernel
theorem d_mm_submit_64 : decode b_mm_submit 64 = .ok (.aload_n 0, 1) := by decide +kernel
theorem d_mm_submit_65 : decode b_mm_submit 65 = .ok (.invokevirtual 208, 3) := by decide +kernel
theorem d_mm_submit_68 : decode b_mm_submit 68 = .ok (.aload_n 0, 1) := by decide +kernel
theorem d_mm_submit_69 : decode b_mm_submit 69 = .ok (.iload_n 1, 1) := by decide +kernel
theorem d_mm_submit_70 : decode b_mm_submit 70 = .ok (.invokevirtual 165, 3) := by decide +kernel
theorem d_mm_submit_73 : decode b_mm_submit 73 = .ok (.istore_n 3, 1) := by decide +kernel
theorem d_mm_submit_74 : decode b_mm_submit 74 = .ok (.aload_n 0, 1) := by decide +kernel
theorem d_mm_submit_75 : decode b_mm_submit 75 = .ok (.invokevirtual 106, 3) := by decide +kernel
theorem d_mm_submit_78 : decode b_mm_submit 78 = .ok (.iload_n 3, 1) := by decide +kernel
theorem d_mm_submit_79 : decode b_mm_submit 79 = .ok (.ifCond .ne 6, 3) := by decide +kernel
theorem d_mm_submit_82 : decode b_mm_submit 82 = .ok (.bipush (-3), 2) := by decide +kernel
theorem d_mm_submit_84 : decode b_mm_submit 84 = .ok (.ireturn, 1) := by decide +kernel
theorem d_mm_submit_85 : decode b_mm_submit 85 = .ok (.aload_n 0, 1) := by decide +kernel
theorem d_mm_submit_86 : decode b_mm_submit 86 = .ok (.getfield 183, 3) := by decide +kernel
theorem d_mm_submit_89 : decode b_mm_submit 89 = .ok (.bipush 8, 2) := by decide +kernel
theorem d_mm_submit_91 : decode b_mm_submit 91 = .ok (.if_icmp .ne 6, 3) := by decide +kernel
theorem d_mm_submit_94 : decode b_mm_submit 94 = .ok (.bipush (-4), 2) := by decide +kernel
theorem d_mm_submit_96 : decode b_mm_submit 96 = .ok (.ireturn, 1) := by decide +kernel
theorem d_mm_submit_97 : decode b_mm_submit 97 = .ok (.aload_n 0, 1) := by decide +kernel
theorem d_mm_submit_98 : decode b_mm_submit 98 = .ok (.getfield 76, 3) := by decide +kernel
theorem d_mm_submit_101 : decode b_mm_submit 101 = .ok (.aload_n 0, 1) := by decide +kernel
theorem d_mm_submit_102 : decode b_mm_submit 102 = .ok (.getfield 183, 3) := by decide +kernel
theorem d_mm_submit_105 : decode b_mm_submit 105 = .ok (.iload_n 1, 1) := by decide +kernel
theorem d_mm_submit_106 : decode b_mm_submit 106 = .ok (.iastore, 1) := by decide +kernel
theorem d_mm_submit_107 : decode b_mm_submit 107 = .ok (.aload_n 0, 1) := by decide +kernel
theorem d_mm_submit_108 : decode b_mm_submit 108 = .ok (.dup, 1) := by decide +kernel
theorem d_mm_submit_109 : decode b_mm_submit 109 = .ok (.getfield 183, 3) := by decide +kernel
theorem d_mm_submit_112 : decode b_mm_submit 112 = .ok (.iconst 1, 1) := by decide +kernel
theorem d_mm_submit_113 : decode b_mm_submit 113 = .ok (.iadd, 1) := by decide +kernel
theorem d_mm_submit_114 : decode b_mm_submit 114 = .ok (.putfield 183, 3) := by decide +kernel
theorem d_mm_submit_117 : decode b_mm_submit 117 = .ok (.iconst 0, 1) := by decide +kernel
theorem d_mm_submit_118 : decode b_mm_submit 118 = .ok (.ireturn, 1) := by decide +kernel
theorem d_mm_template_0 : decode b_mm_template 0 = .ok (.aload_n 0, 1) := by decide +kernel
theorem d_mm_template_1 : decode b_mm_template 1 = .ok (.getfield 34, 3) := by decide +kernel
theorem d_mm_template_4 : decode b_mm_template 4 = .ok (.bipush 60, 2) := by decide +kernel
theorem d_mm_template_6 : decode b_mm_template 6 = .ok (.if_icmp .ne 5, 3) := by decide +kernel
theorem d_mm_template_9 : decode b_mm_template 9 = .ok (.iconst (-1), 1) := by decide +kernel
theorem d_mm_template_10 : decode b_mm_template 10 = .ok (.ireturn, 1) := by decide +kernel
theorem d_mm_template_11 : decode b_mm_template 11 = .ok (.aload_n 0, 1) := by decide +kernel
theorem d_mm_template_12 : decode b_mm_template 12 = .ok (.invokevirtual 147, 3) := by decide +kernel
theorem d_mm_template_15 : decode b_mm_template 15 = .ok (.lstore_n 3, 1) := by decide +kernel
theorem d_mm_template_16 : decode b_mm_template 16 = .ok (.aload_n 0, 1) := by decide +kernel
theorem d_mm_template_17 : decode b_mm_template 17 = .ok (.getfield 38, 3) := by decide +kernel
theorem d_mm_template_20 : decode b_mm_template 20 = .ok (.bipush 61, 2) := by decide +kernel
theorem d_mm_template_22 : decode b_mm_template 22 = .ok (.iconst 0, 1) := by decide +kernel
theorem d_mm_template_23 : decode b_mm_template 23 = .ok (.iastore, 1) := by decide +kernel
theorem d_mm_template_24 : decode b_mm_template 24 = .ok (.lload_n 3, 1) := by decide +kernel
theorem d_mm_template_25 : decode b_mm_template 25 = .ok (.lconst 0, 1) := by decide +kernel
theorem d_mm_template_26 : decode b_mm_template 26 = .ok (.lcmp, 1) := by decide +kernel
theorem d_mm_template_27 : decode b_mm_template 27 = .ok (.ifCond .eq 156, 3) := by decide +kernel
theorem d_mm_template_30 : decode b_mm_template 30 = .ok (.aload_n 0, 1) := by decide +kernel
theorem d_mm_template_31 : decode b_mm_template 31 = .ok (.getfield 38, 3) := by decide +kernel
theorem d_mm_template_34 : decode b_mm_template 34 = .ok (.bipush 61, 2) := by decide +kernel
theorem d_mm_template_36 : decode b_mm_template 36 = .ok (.iaload, 1) := by decide +kernel
theorem d_mm_template_37 : decode b_mm_template 37 = .ok (.iconst 4, 1) := by decide +kernel
theorem d_mm_template_38 : decode b_mm_template 38 = .ok (.if_icmp .ge 145, 3) := by decide +kernel
theorem d_mm_template_41 : decode b_mm_template 41 = .ok (.iconst (-1), 1) := by decide +kernel
theorem d_mm_template_42 : decode b_mm_template 42 = .ok (.istore 5, 2) := by decide +kernel
theorem d_mm_template_44 : decode b_mm_template 44 = .ok (.iconst 0, 1) := by decide +kernel
theorem d_mm_template_45 : decode b_mm_template 45 = .ok (.istore 6, 2) := by decide +kernel
theorem d_mm_template_47 : decode b_mm_template 47 = .ok (.iload 6, 2) := by decide +kernel
theorem d_mm_template_49 : decode b_mm_template 49 = .ok (.bipush 60, 2) := by decide +kernel
theorem d_mm_template_51 : decode b_mm_template 51 = .ok (.if_icmp .ge 89, 3) := by decide +kernel
theorem d_mm_template_54 : decode b_mm_template 54 = .ok (.lload_n 3, 1) := by decide +kernel
theorem d_mm_template_55 : decode b_mm_template 55 = .ok (.iload 6, 2) := by decide +kernel
theorem d_mm_template_57 : decode b_mm_template 57 = .ok (.invokestatic 125, 3) := by decide +kernel
theorem d_mm_template_60 : decode b_mm_template 60 = .ok (.ifCond .eq 57, 3) := by decide +kernel
theorem d_mm_template_63 : decode b_mm_template 63 = .ok (.iload 5, 2) := by decide +kernel
theorem d_mm_template_65 : decode b_mm_template 65 = .ok (.ifCond .lt 48, 3) := by decide +kernel
theorem d_mm_template_68 : decode b_mm_template 68 = .ok (.aload_n 0, 1) := by decide +kernel
theorem d_mm_template_69 : decode b_mm_template 69 = .ok (.getfield 67, 3) := by decide +kernel
theorem d_mm_template_72 : decode b_mm_template 72 = .ok (.iload 6, 2) := by decide +kernel
theorem d_mm_template_74 : decode b_mm_template 74 = .ok (.iaload, 1) := by decide +kernel
theorem d_mm_template_75 : decode b_mm_template 75 = .ok (.aload_n 0, 1) := by decide +kernel
theorem d_mm_template_76 : decode b_mm_template 76 = .ok (.getfield 67, 3) := by decide +kernel
theorem d_mm_template_79 : decode b_mm_template 79 = .ok (.iload 5, 2) := by decide +kernel
theorem d_mm_template_81 : decode b_mm_template 81 = .ok (.iaload, 1) := by decide +kernel
theorem d_mm_template_82 : decode b_mm_template 82 = .ok (.if_icmp .gt 31, 3) := by decide +kernel
theorem d_mm_template_85 : decode b_mm_template 85 = .ok (.aload_n 0, 1) := by decide +kernel
theorem d_mm_template_86 : decode b_mm_template 86 = .ok (.getfield 67, 3) := by decide +kernel
theorem d_mm_template_89 : decode b_mm_template 89 = .ok (.iload 6, 2) := by decide +kernel
theorem d_mm_template_91 : decode b_mm_template 91 = .ok (.iaload, 1) := by decide +kernel
theorem d_mm_template_92 : decode b_mm_template 92 = .ok (.aload_n 0, 1) := by decide +kernel
theorem d_mm_template_93 : decode b_mm_template 93 = .ok (.getfield 67, 3) := by decide +kernel
theorem d_mm_template_96 : decode b_mm_template 96 = .ok (.iload 5, 2) := by decide +kernel
theorem d_mm_template_98 : decode b_mm_template 98 = .ok (.iaload, 1) := by decide +kernel
theorem d_mm_template_99 : decode b_mm_template 99 = .ok (.if_icmp .ne 18, 3) := by decide +kernel
theorem d_mm_template_102 : decode b_mm_template 102 = .ok (.aload_n 0, 1) := by decide +kernel
theorem d_mm_template_103 : decode b_mm_template 103 = .ok (.iload 6, 2) := by decide +kernel
theorem d_mm_template_105 : decode b_mm_template 105 = .ok (.iload 5, 2) := by decide +kernel
theorem d_mm_template_107 : decode b_mm_template 107 = .ok (.invokevirtual 131, 3) := by decide +kernel
theorem d_mm_template_110 : decode b_mm_template 110 = .ok (.ifCond .eq 7, 3) := by decide +kernel
theorem d_mm_template_113 : decode b_mm_template 113 = .ok (.iconst 1, 1) := by decide +kernel
theorem d_mm_template_114 : decode b_mm_template 114 = .ok (.goto 4, 3) := by decide +kernel
theorem d_mm_template_117 : decode b_mm_template 117 = .ok (.iconst 0, 1) := by decide +kernel
theorem d_mm_template_118 : decode b_mm_template 118 = .ok (.istore 7, 2) := by decide +kernel
theorem d_mm_template_120 : decode b_mm_template 120 = .ok (.iload 7, 2) := by decide +kernel
theorem d_mm_template_122 : decode b_mm_template 122 = .ok (.ifCond .eq 8, 3) := by decide +kernel
theorem d_mm_template_125 : decode b_mm_template 125 = .ok (.iload 6, 2) := by decide +kernel
theorem d_mm_template_127 : decode b_mm_template 127 = .ok (.goto 5, 3) := by decide +kernel
theorem d_mm_template_130 : decode b_mm_template 130 = .ok (.iload 5, 2) := by decide +kernel
theorem d_mm_template_132 : decode b_mm_template 132 = .ok (.istore 5, 2) := by decide +kernel
theorem d_mm_template_134 : decode b_mm_template 134 = .ok (.iinc 6 1, 3) := by decide +kernel
theorem d_mm_template_137 : decode b_mm_template 137 = .ok (.goto (-90), 3) := by decide +kernel
theorem d_mm_template_140 : decode b_mm_template 140 = .ok (.aload_n 0, 1) := by decide +kernel
theorem d_mm_template_141 : decode b_mm_template 141 = .ok (.getfield 41, 3) := by decide +kernel
theorem d_mm_template_144 : decode b_mm_template 144 = .ok (.sipush 244, 3) := by decide +kernel
theorem d_mm_template_147 : decode b_mm_template 147 = .ok (.aload_n 0, 1) := by decide +kernel
theorem d_mm_template_148 : decode b_mm_template 148 = .ok (.getfield 38, 3) := by decide +kernel
theorem d_mm_template_151 : decode b_mm_template 151 = .ok (.bipush 61, 2) := by decide +kernel
theorem d_mm_template_153 : decode b_mm_template 153 = .ok (.iaload, 1) := by decide +kernel
theorem d_mm_template_154 : decode b_mm_template 154 = .ok (.iadd, 1) := by decide +kernel
theorem d_mm_template_155 : decode b_mm_template 155 = .ok (.iload 5, 2) := by decide +kernel
theorem d_mm_template_157 : decode b_mm_template 157 = .ok (.iastore, 1) := by decide +kernel
theorem d_mm_template_158 : decode b_mm_template 158 = .ok (.aload_n 0, 1) := by decide +kernel
theorem d_mm_template_159 : decode b_mm_template 159 = .ok (.getfield 38, 3) := by decide +kernel
theorem d_mm_template_162 : decode b_mm_template 162 = .ok (.bipush 61, 2) := by decide +kernel
theorem d_mm_template_164 : decode b_mm_template 164 = .ok (.dup2, 1) := by decide +kernel
theorem d_mm_template_165 : decode b_mm_template 165 = .ok (.iaload, 1) := by decide +kernel
theorem d_mm_template_166 : decode b_mm_template 166 = .ok (.iconst 1, 1) := by decide +kernel
theorem d_mm_template_167 : decode b_mm_template 167 = .ok (.iadd, 1) := by decide +kernel
theorem d_mm_template_168 : decode b_mm_template 168 = .ok (.iastore, 1) := by decide +kernel
theorem d_mm_template_169 : decode b_mm_template 169 = .ok (.lload_n 3, 1) := by decide +kernel
theorem d_mm_template_170 : decode b_mm_template 170 = .ok (.lconst 1, 1) := by decide +kernel
theorem d_mm_template_171 : decode b_mm_template 171 = .ok (.iload 5, 2) := by decide +kernel
theorem d_mm_template_173 : decode b_mm_template 173 = .ok (.lshl, 1) := by decide +kernel
theorem d_mm_template_174 : decode b_mm_template 174 = .ok (.ldc2_w 129, 3) := by decide +kernel
theorem d_mm_template_177 : decode b_mm_template 177 = .ok (.lxor, 1) := by decide +kernel
theorem d_mm_template_178 : decode b_mm_template 178 = .ok (.land, 1) := by decide +kernel
theorem d_mm_template_179 : decode b_mm_template 179 = .ok (.lstore_n 3, 1) := by decide +kernel
theorem d_mm_template_180 : decode b_mm_template 180 = .ok (.goto (-156), 3) := by decide +kernel
theorem d_mm_template_183 : decode b_mm_template 183 = .ok (.aload_n 0, 1) := by decide +kernel
theorem d_mm_template_184 : decode b_mm_template 184 = .ok (.getfield 44, 3) := by decide +kernel
theorem d_mm_template_187 : decode b_mm_template 187 = .ok (.bipush 61, 2) := by decide +kernel
theorem d_mm_template_189 : decode b_mm_template 189 = .ok (.aload_n 0, 1) := by decide +kernel
theorem d_mm_template_190 : decode b_mm_template 190 = .ok (.getfield 183, 3) := by decide +kernel
theorem d_mm_template_193 : decode b_mm_template 193 = .ok (.iconst 3, 1) := by decide +kernel
theorem d_mm_template_194 : decode b_mm_template 194 = .ok (.if_icmp .ge 10, 3) := by decide +kernel
theorem d_mm_template_197 : decode b_mm_template 197 = .ok (.aload_n 0, 1) := by decide +kernel
theorem d_mm_template_198 : decode b_mm_template 198 = .ok (.getfield 183, 3) := by decide +kernel
theorem d_mm_template_201 : decode b_mm_template 201 = .ok (.goto 4, 3) := by decide +kernel
theorem d_mm_template_204 : decode b_mm_template 204 = .ok (.iconst 3, 1) := by decide +kernel
theorem d_mm_template_205 : decode b_mm_template 205 = .ok (.iastore, 1) := by decide +kernel
theorem d_mm_template_206 : decode b_mm_template 206 = .ok (.iconst 0, 1) := by decide +kernel
theorem d_mm_template_207 : decode b_mm_template 207 = .ok (.istore 5, 2) := by decide +kernel
theorem d_mm_template_209 : decode b_mm_template 209 = .ok (.iload 5, 2) := by decide +kernel
theorem d_mm_template_211 : decode b_mm_template 211 = .ok (.aload_n 0, 1) := by decide +kernel
theorem d_mm_template_212 : decode b_mm_template 212 = .ok (.getfield 44, 3) := by decide +kernel
theorem d_mm_template_215 : decode b_mm_template 215 = .ok (.bipush 61, 2) := by decide +kernel
theorem d_mm_template_217 : decode b_mm_template 217 = .ok (.iaload, 1) := by decide +kernel
theorem d_mm_template_218 : decode b_mm_template 218 = .ok (.if_icmp .ge 27, 3) := by decide +kernel
theorem d_mm_template_221 : decode b_mm_template 221 = .ok (.aload_n 0, 1) := by decide +kernel
theorem d_mm_template_222 : decode b_mm_template 222 = .ok (.getfield 47, 3) := by decide +kernel
theorem d_mm_template_225 : decode b_mm_template 225 = .ok (.sipush 183, 3) := by decide +kernel
theorem d_mm_template_228 : decode b_mm_template 228 = .ok (.iload 5, 2) := by decide +kernel
theorem d_mm_template_230 : decode b_mm_template 230 = .ok (.iadd, 1) := by decide +kernel
theorem d_mm_template_231 : decode b_mm_template 231 = .ok (.aload_n 0, 1) := by decide +kernel
theorem d_mm_template_232 : decode b_mm_template 232 = .ok (.getfield 76, 3) := by decide +kernel
theorem d_mm_template_235 : decode b_mm_template 235 = .ok (.iload 5, 2) := by decide +kernel
theorem d_mm_template_237 : decode b_mm_template 237 = .ok (.iaload, 1) := by decide +kernel
theorem d_mm_template_238 : decode b_mm_template 238 = .ok (.iastore, 1) := by decide +kernel
theorem d_mm_template_239 : decode b_mm_template 239 = .ok (.iinc 5 1, 3) := by decide +kernel
theorem d_mm_template_242 : decode b_mm_template 242 = .ok (.goto (-33), 3) := by decide +kernel
theorem d_mm_template_245 : decode b_mm_template 245 = .ok (.aload_n 0, 1) := by decide +kernel
theorem d_mm_template_246 : decode b_mm_template 246 = .ok (.bipush 61, 2) := by decide +kernel
theorem d_mm_template_248 : decode b_mm_template 248 = .ok (.iload_n 1, 1) := by decide +kernel
theorem d_mm_template_249 : decode b_mm_template 249 = .ok (.iload_n 2, 1) := by decide +kernel
theorem d_mm_template_250 : decode b_mm_template 250 = .ok (.invokevirtual 121, 3) := by decide +kernel
theorem d_mm_template_253 : decode b_mm_template 253 = .ok (.ireturn, 1) := by decide +kernel
theorem d_mm_placeOf_0 : decode b_mm_placeOf 0 = .ok (.iconst 0, 1) := by decide +kernel
theorem d_mm_placeOf_1 : decode b_mm_placeOf 1 = .ok (.istore_n 2, 1) := by decide +kernel
theorem d_mm_placeOf_2 : decode b_mm_placeOf 2 = .ok (.iload_n 2, 1) := by decide +kernel
theorem d_mm_placeOf_3 : decode b_mm_placeOf 3 = .ok (.aload_n 0, 1) := by decide +kernel
theorem d_mm_placeOf_4 : decode b_mm_placeOf 4 = .ok (.getfield 158, 3) := by decide +kernel
theorem d_mm_placeOf_7 : decode b_mm_placeOf 7 = .ok (.if_icmp .ge 21, 3) := by decide +kernel
theorem d_mm_placeOf_10 : decode b_mm_placeOf 10 = .ok (.aload_n 0, 1) := by decide +kernel
theorem d_mm_placeOf_11 : decode b_mm_placeOf 11 = .ok (.getfield 79, 3) := by decide +kernel
theorem d_mm_placeOf_14 : decode b_mm_placeOf 14 = .ok (.iload_n 2, 1) := by decide +kernel
theorem d_mm_placeOf_15 : decode b_mm_placeOf 15 = .ok (.iaload, 1) := by decide +kernel
theorem d_mm_placeOf_16 : decode b_mm_placeOf 16 = .ok (.iload_n 1, 1) := by decide +kernel
theorem d_mm_placeOf_17 : decode b_mm_placeOf 17 = .ok (.if_icmp .ne 5, 3) := by decide +kernel
theorem d_mm_placeOf_20 : decode b_mm_placeOf 20 = .ok (.iload_n 2, 1) := by decide +kernel
theorem d_mm_placeOf_21 : decode b_mm_placeOf 21 = .ok (.ireturn, 1) := by decide +kernel
theorem d_mm_placeOf_22 : decode b_mm_placeOf 22 = .ok (.iinc 2 1, 3) := by decide +kernel
theorem d_mm_placeOf_25 : decode b_mm_placeOf 25 = .ok (.goto (-23), 3) := by decide +kernel
theorem d_mm_placeOf_28 : decode b_mm_placeOf 28 = .ok (.iconst (-1), 1) := by decide +kernel
theorem d_mm_placeOf_29 : decode b_mm_placeOf 29 = .ok (.ireturn, 1) := by decide +kernel
theorem d_mm_block_0 : decode b_mm_block 0 = .ok (.aload_n 0, 1) := by decide +kernel
theorem d_mm_block_1 : decode b_mm_block 1 = .ok (.iload_n 1, 1) := by decide +kernel
theorem d_mm_block_2 : decode b_mm_block 2 = .ok (.invokevirtual 113, 3) := by decide +kernel
theorem d_mm_block_5 : decode b_mm_block 5 = .ok (.ifCond .eq 12, 3) := by decide +kernel
theorem d_mm_block_8 : decode b_mm_block 8 = .ok (.iload_n 2, 1) := by decide +kernel
theorem d_mm_block_9 : decode b_mm_block 9 = .ok (.ifCond .lt 8, 3) := by decide +kernel
theorem d_mm_block_12 : decode b_mm_block 12 = .ok (.iload_n 2, 1) := by decide +kernel
theorem d_mm_block_13 : decode b_mm_block 13 = .ok (.iconst 5, 1) := by decide +kernel
theorem d_mm_block_14 : decode b_mm_block 14 = .ok (.if_icmp .le 5, 3) := by decide +kernel
theorem d_mm_block_17 : decode b_mm_block 17 = .ok (.iconst (-1), 1) := by decide +kernel
theorem d_mm_block_18 : decode b_mm_block 18 = .ok (.ireturn, 1) := by decide +kernel
theorem d_mm_block_19 : decode b_mm_block 19 = .ok (.aload_n 0, 1) := by decide +kernel
theorem d_mm_block_20 : decode b_mm_block 20 = .ok (.getfield 56, 3) := by decide +kernel
theorem d_mm_block_23 : decode b_mm_block 23 = .ok (.iload_n 1, 1) := by decide +kernel
theorem d_mm_block_24 : decode b_mm_block 24 = .ok (.invokestatic 125, 3) := by decide +kernel
theorem d_mm_block_27 : decode b_mm_block 27 = .ok (.istore_n 3, 1) := by decide +kernel
theorem d_mm_block_28 : decode b_mm_block 28 = .ok (.iload_n 2, 1) := by decide +kernel
theorem d_mm_block_29 : decode b_mm_block 29 = .ok (.ifCond .ne 43, 3) := by decide +kernel
theorem d_mm_block_32 : decode b_mm_block 32 = .ok (.iload_n 3, 1) := by decide +kernel
theorem d_mm_block_33 : decode b_mm_block 33 = .ok (.ifCond .eq 25, 3) := by decide +kernel
theorem d_mm_block_36 : decode b_mm_block 36 = .ok (.aload_n 0, 1) := by decide +kernel
theorem d_mm_block_37 : decode b_mm_block 37 = .ok (.getfield 64, 3) := by decide +kernel
theorem d_mm_block_40 : decode b_mm_block 40 = .ok (.bipush 60, 2) := by decide +kernel
theorem d_mm_block_42 : decode b_mm_block 42 = .ok (.laload, 1) := by decide +kernel
theorem d_mm_block_43 : decode b_mm_block 43 = .ok (.iload_n 1, 1) := by decide +kernel
theorem d_mm_block_44 : decode b_mm_block 44 = .ok (.invokestatic 125, 3) := by decide +kernel
theorem d_mm_block_47 : decode b_mm_block 47 = .ok (.ifCond .eq 7, 3) := by decide +kernel
theorem d_mm_block_50 : decode b_mm_block 50 = .ok (.iconst 2, 1) := by decide +kernel
theorem d_mm_block_51 : decode b_mm_block 51 = .ok (.goto 20, 3) := by decide +kernel
theorem d_mm_block_54 : decode b_mm_block 54 = .ok (.iconst 1, 1) := by decide +kernel
theorem d_mm_block_55 : decode b_mm_block 55 = .ok (.goto 16, 3) := by decide +kernel
theorem d_mm_block_58 : decode b_mm_block 58 = .ok (.aload_n 0, 1) := by decide +kernel
theorem d_mm_block_59 : decode b_mm_block 59 = .ok (.iload_n 1, 1) := by decide +kernel
theorem d_mm_block_60 : decode b_mm_block 60 = .ok (.invokevirtual 192, 3) := by decide +kernel
theorem d_mm_block_63 : decode b_mm_block 63 = .ok (.ifCond .eq 7, 3) := by decide +kernel
theorem d_mm_block_66 : decode b_mm_block 66 = .ok (.iconst 3, 1) := by decide +kernel
theorem d_mm_block_67 : decode b_mm_block 67 = .ok (.goto 4, 3) := by decide +kernel
theorem d_mm_block_70 : decode b_mm_block 70 = .ok (.iconst 0, 1) := by decide +kernel
theorem d_mm_block_71 : decode b_mm_block 71 = .ok (.ireturn, 1) := by decide +kernel
theorem d_mm_block_72 : decode b_mm_block 72 = .ok (.iload_n 2, 1) := by decide +kernel
theorem d_mm_block_73 : decode b_mm_block 73 = .ok (.iconst 5, 1) := by decide +kernel
theorem d_mm_block_74 : decode b_mm_block 74 = .ok (.if_icmp .ne 10, 3) := by decide +kernel
theorem d_mm_block_77 : decode b_mm_block 77 = .ok (.aload_n 0, 1) := by decide +kernel
theorem d_mm_block_78 : decode b_mm_block 78 = .ok (.getfield 53, 3) := by decide +kernel
theorem d_mm_block_81 : decode b_mm_block 81 = .ok (.iload_n 1, 1) := by decide +kernel
theorem d_mm_block_82 : decode b_mm_block 82 = .ok (.iaload, 1) := by decide +kernel
theorem d_mm_block_83 : decode b_mm_block 83 = .ok (.ireturn, 1) := by decide +kernel
theorem d_mm_block_84 : decode b_mm_block 84 = .ok (.iload_n 3, 1) := by decide +kernel
theorem d_mm_block_85 : decode b_mm_block 85 = .ok (.ifCond .ne 5, 3) := by decide +kernel
theorem d_mm_block_88 : decode b_mm_block 88 = .ok (.iconst (-1), 1) := by decide +kernel
theorem d_mm_block_89 : decode b_mm_block 89 = .ok (.ireturn, 1) := by decide +kernel
theorem d_mm_block_90 : decode b_mm_block 90 = .ok (.iload_n 2, 1) := by decide +kernel
theorem d_mm_block_91 : decode b_mm_block 91 = .ok (.iconst 3, 1) := by decide +kernel
theorem d_mm_block_92 : decode b_mm_block 92 = .ok (.if_icmp .ne 9, 3) := by decide +kernel
theorem d_mm_block_95 : decode b_mm_block 95 = .ok (.aload_n 0, 1) := by decide +kernel
theorem d_mm_block_96 : decode b_mm_block 96 = .ok (.iload_n 1, 1) := by decide +kernel
theorem d_mm_block_97 : decode b_mm_block 97 = .ok (.invokevirtual 211, 3) := by decide +kernel
theorem d_mm_block_100 : decode b_mm_block 100 = .ok (.ireturn, 1) := by decide +kernel
theorem d_mm_block_101 : decode b_mm_block 101 = .ok (.iload_n 2, 1) := by decide +kernel
theorem d_mm_block_102 : decode b_mm_block 102 = .ok (.iconst 1, 1) := by decide +kernel
theorem d_mm_block_103 : decode b_mm_block 103 = .ok (.if_icmp .ne 12, 3) := by decide +kernel
theorem d_mm_block_106 : decode b_mm_block 106 = .ok (.aload_n 0, 1) := by decide +kernel
theorem d_mm_block_107 : decode b_mm_block 107 = .ok (.getfield 67, 3) := by decide +kernel
theorem d_mm_block_110 : decode b_mm_block 110 = .ok (.iload_n 1, 1) := by decide +kernel
theorem d_mm_block_111 : decode b_mm_block 111 = .ok (.iaload, 1) := by decide +kernel
theorem d_mm_block_112 : decode b_mm_block 112 = .ok (.goto 52, 3) := by decide +kernel
theorem d_mm_block_115 : decode b_mm_block 115 = .ok (.iload_n 2, 1) := by decide +kernel
theorem d_mm_block_116 : decode b_mm_block 116 = .ok (.iconst 2, 1) := by decide +kernel
theorem d_mm_block_117 : decode b_mm_block 117 = .ok (.if_icmp .ne 12, 3) := by decide +kernel
theorem d_mm_block_120 : decode b_mm_block 120 = .ok (.aload_n 0, 1) := by decide +kernel
theorem d_mm_block_121 : decode b_mm_block 121 = .ok (.getfield 70, 3) := by decide +kernel
theorem d_mm_block_124 : decode b_mm_block 124 = .ok (.iload_n 1, 1) := by decide +kernel
theorem d_mm_block_125 : decode b_mm_block 125 = .ok (.iaload, 1) := by decide +kernel
theorem d_mm_block_126 : decode b_mm_block 126 = .ok (.goto 38, 3) := by decide +kernel
theorem d_mm_block_129 : decode b_mm_block 129 = .ok (.iload_n 1, 1) := by decide +kernel
theorem d_mm_block_130 : decode b_mm_block 130 = .ok (.ifCond .ne 7, 3) := by decide +kernel
theorem d_mm_block_133 : decode b_mm_block 133 = .ok (.iconst 0, 1) := by decide +kernel
theorem d_mm_block_134 : decode b_mm_block 134 = .ok (.goto 30, 3) := by decide +kernel
theorem d_mm_block_137 : decode b_mm_block 137 = .ok (.aload_n 0, 1) := by decide +kernel
theorem d_mm_block_138 : decode b_mm_block 138 = .ok (.getfield 60, 3) := by decide +kernel
theorem d_mm_block_141 : decode b_mm_block 141 = .ok (.iload_n 1, 1) := by decide +kernel
theorem d_mm_block_142 : decode b_mm_block 142 = .ok (.laload, 1) := by decide +kernel
theorem d_mm_block_143 : decode b_mm_block 143 = .ok (.aload_n 0, 1) := by decide +kernel
theorem d_mm_block_144 : decode b_mm_block 144 = .ok (.getfield 60, 3) := by decide +kernel
theorem d_mm_block_147 : decode b_mm_block 147 = .ok (.aload_n 0, 1) := by decide +kernel
theorem d_mm_block_148 : decode b_mm_block 148 = .ok (.getfield 70, 3) := by decide +kernel
theorem d_mm_block_151 : decode b_mm_block 151 = .ok (.iload_n 1, 1) := by decide +kernel
theorem d_mm_block_152 : decode b_mm_block 152 = .ok (.iaload, 1) := by decide +kernel
theorem d_mm_block_153 : decode b_mm_block 153 = .ok (.laload, 1) := by decide +kernel
theorem d_mm_block_154 : decode b_mm_block 154 = .ok (.ldc2_w 129, 3) := by decide +kernel
theorem d_mm_block_157 : decode b_mm_block 157 = .ok (.lxor, 1) := by decide +kernel
theorem d_mm_block_158 : decode b_mm_block 158 = .ok (.land, 1) := by decide +kernel
theorem d_mm_block_159 : decode b_mm_block 159 = .ok (.invokestatic 143, 3) := by decide +kernel
theorem d_mm_block_162 : decode b_mm_block 162 = .ok (.iconst 1, 1) := by decide +kernel
theorem d_mm_block_163 : decode b_mm_block 163 = .ok (.isub, 1) := by decide +kernel
theorem d_mm_block_164 : decode b_mm_block 164 = .ok (.ireturn, 1) := by decide +kernel
theorem d_mm_order_0 : decode b_mm_order 0 = .ok (.iload_n 1, 1) := by decide +kernel
theorem d_mm_order_1 : decode b_mm_order 1 = .ok (.ifCond .lt 11, 3) := by decide +kernel
theorem d_mm_order_4 : decode b_mm_order 4 = .ok (.iload_n 1, 1) := by decide +kernel
theorem d_mm_order_5 : decode b_mm_order 5 = .ok (.aload_n 0, 1) := by decide +kernel
theorem d_mm_order_6 : decode b_mm_order 6 = .ok (.getfield 158, 3) := by decide +kernel
theorem d_mm_order_9 : decode b_mm_order 9 = .ok (.if_icmp .lt 7, 3) := by decide +kernel
theorem d_mm_order_12 : decode b_mm_order 12 = .ok (.iconst (-1), 1) := by decide +kernel
theorem d_mm_order_13 : decode b_mm_order 13 = .ok (.goto 9, 3) := by decide +kernel
theorem d_mm_order_16 : decode b_mm_order 16 = .ok (.aload_n 0, 1) := by decide +kernel
theorem d_mm_order_17 : decode b_mm_order 17 = .ok (.getfield 79, 3) := by decide +kernel
theorem d_mm_order_20 : decode b_mm_order 20 = .ok (.iload_n 1, 1) := by decide +kernel
theorem d_mm_order_21 : decode b_mm_order 21 = .ok (.iaload, 1) := by decide +kernel
theorem d_mm_order_22 : decode b_mm_order 22 = .ok (.ireturn, 1) := by decide +kernel
theorem d_mm_unspent_0 : decode b_mm_unspent 0 = .ok (.iload_n 1, 1) := by decide +kernel
theorem d_mm_unspent_1 : decode b_mm_unspent 1 = .ok (.bipush 100, 2) := by decide +kernel
theorem d_mm_unspent_3 : decode b_mm_unspent 3 = .ok (.if_icmp .lt 18, 3) := by decide +kernel
theorem d_mm_unspent_6 : decode b_mm_unspent 6 = .ok (.iload_n 1, 1) := by decide +kernel
theorem d_mm_unspent_7 : decode b_mm_unspent 7 = .ok (.bipush 100, 2) := by decide +kernel
theorem d_mm_unspent_9 : decode b_mm_unspent 9 = .ok (.isub, 1) := by decide +kernel
theorem d_mm_unspent_10 : decode b_mm_unspent 10 = .ok (.aload_n 0, 1) := by decide +kernel
theorem d_mm_unspent_11 : decode b_mm_unspent 11 = .ok (.getfield 34, 3) := by decide +kernel
theorem d_mm_unspent_14 : decode b_mm_unspent 14 = .ok (.if_icmp .ge 7, 3) := by decide +kernel
theorem d_mm_unspent_17 : decode b_mm_unspent 17 = .ok (.iconst 1, 1) := by decide +kernel
theorem d_mm_unspent_18 : decode b_mm_unspent 18 = .ok (.goto 4, 3) := by decide +kernel
theorem d_mm_unspent_21 : decode b_mm_unspent 21 = .ok (.iconst 0, 1) := by decide +kernel
theorem d_mm_unspent_22 : decode b_mm_unspent 22 = .ok (.istore_n 3, 1) := by decide +kernel
theorem d_mm_unspent_23 : decode b_mm_unspent 23 = .ok (.iload_n 1, 1) := by decide +kernel
theorem d_mm_unspent_24 : decode b_mm_unspent 24 = .ok (.ifCond .lt 15, 3) := by decide +kernel
theorem d_mm_unspent_27 : decode b_mm_unspent 27 = .ok (.iload_n 1, 1) := by decide +kernel
theorem d_mm_unspent_28 : decode b_mm_unspent 28 = .ok (.aload_n 0, 1) := by decide +kernel
theorem d_mm_unspent_29 : decode b_mm_unspent 29 = .ok (.getfield 110, 3) := by decide +kernel
theorem d_mm_unspent_32 : decode b_mm_unspent 32 = .ok (.if_icmp .ge 7, 3) := by decide +kernel
theorem d_mm_unspent_35 : decode b_mm_unspent 35 = .ok (.iconst 1, 1) := by decide +kernel
theorem d_mm_unspent_36 : decode b_mm_unspent 36 = .ok (.goto 4, 3) := by decide +kernel
theorem d_mm_unspent_39 : decode b_mm_unspent 39 = .ok (.iconst 0, 1) := by decide +kernel
theorem d_mm_unspent_40 : decode b_mm_unspent 40 = .ok (.istore 4, 2) := by decide +kernel
theorem d_mm_unspent_42 : decode b_mm_unspent 42 = .ok (.iload_n 3, 1) := by decide +kernel
theorem d_mm_unspent_43 : decode b_mm_unspent 43 = .ok (.ifCond .ne 8, 3) := by decide +kernel
theorem d_mm_unspent_46 : decode b_mm_unspent 46 = .ok (.iload 4, 2) := by decide +kernel
theorem d_mm_unspent_48 : decode b_mm_unspent 48 = .ok (.ifCond .eq 12, 3) := by decide +kernel
theorem d_mm_unspent_51 : decode b_mm_unspent 51 = .ok (.iload_n 2, 1) := by decide +kernel
theorem d_mm_unspent_52 : decode b_mm_unspent 52 = .ok (.ifCond .lt 8, 3) := by decide +kernel
theorem d_mm_unspent_55 : decode b_mm_unspent 55 = .ok (.iload_n 2, 1) := by decide +kernel
theorem d_mm_unspent_56 : decode b_mm_unspent 56 = .ok (.iconst 1, 1) := by decide +kernel
theorem d_mm_unspent_57 : decode b_mm_unspent 57 = .ok (.if_icmp .le 5, 3) := by decide +kernel
theorem d_mm_unspent_60 : decode b_mm_unspent 60 = .ok (.iconst (-1), 1) := by decide +kernel
theorem d_mm_unspent_61 : decode b_mm_unspent 61 = .ok (.ireturn, 1) := by decide +kernel
theorem d_mm_unspent_62 : decode b_mm_unspent 62 = .ok (.aload_n 0, 1) := by decide +kernel
theorem d_mm_unspent_63 : decode b_mm_unspent 63 = .ok (.iload_n 1, 1) := by decide +kernel
theorem d_mm_unspent_64 : decode b_mm_unspent 64 = .ok (.iload_n 2, 1) := by decide +kernel
theorem d_mm_unspent_65 : decode b_mm_unspent 65 = .ok (.invokevirtual 174, 3) := by decide +kernel
theorem d_mm_unspent_68 : decode b_mm_unspent 68 = .ok (.ifCond .eq 12, 3) := by decide +kernel
theorem d_mm_unspent_71 : decode b_mm_unspent 71 = .ok (.aload_n 0, 1) := by decide +kernel
theorem d_mm_unspent_72 : decode b_mm_unspent 72 = .ok (.iload_n 1, 1) := by decide +kernel
theorem d_mm_unspent_73 : decode b_mm_unspent 73 = .ok (.iload_n 2, 1) := by decide +kernel
theorem d_mm_unspent_74 : decode b_mm_unspent 74 = .ok (.invokevirtual 171, 3) := by decide +kernel
theorem d_mm_unspent_77 : decode b_mm_unspent 77 = .ok (.goto 4, 3) := by decide +kernel
theorem d_mm_unspent_80 : decode b_mm_unspent 80 = .ok (.iconst (-1), 1) := by decide +kernel
theorem d_mm_unspent_81 : decode b_mm_unspent 81 = .ok (.ireturn, 1) := by decide +kernel
theorem d_mm_pool_0 : decode b_mm_pool 0 = .ok (.iload_n 1, 1) := by decide +kernel
theorem d_mm_pool_1 : decode b_mm_pool 1 = .ok (.ifCond .lt 11, 3) := by decide +kernel
theorem d_mm_pool_4 : decode b_mm_pool 4 = .ok (.iload_n 1, 1) := by decide +kernel
theorem d_mm_pool_5 : decode b_mm_pool 5 = .ok (.aload_n 0, 1) := by decide +kernel
theorem d_mm_pool_6 : decode b_mm_pool 6 = .ok (.getfield 183, 3) := by decide +kernel
theorem d_mm_pool_9 : decode b_mm_pool 9 = .ok (.if_icmp .lt 7, 3) := by decide +kernel
theorem d_mm_pool_12 : decode b_mm_pool 12 = .ok (.iconst (-1), 1) := by decide +kernel
theorem d_mm_pool_13 : decode b_mm_pool 13 = .ok (.goto 9, 3) := by decide +kernel
theorem d_mm_pool_16 : decode b_mm_pool 16 = .ok (.aload_n 0, 1) := by decide +kernel
theorem d_mm_pool_17 : decode b_mm_pool 17 = .ok (.getfield 76, 3) := by decide +kernel
theorem d_mm_pool_20 : decode b_mm_pool 20 = .ok (.iload_n 1, 1) := by decide +kernel
theorem d_mm_pool_21 : decode b_mm_pool 21 = .ok (.iaload, 1) := by decide +kernel
theorem d_mm_pool_22 : decode b_mm_pool 22 = .ok (.ireturn, 1) := by decide +kernel
theorem d_mm_wanted_0 : decode b_mm_wanted 0 = .ok (.iconst 0, 1) := by decide +kernel
theorem d_mm_wanted_1 : decode b_mm_wanted 1 = .ok (.istore_n 2, 1) := by decide +kernel
theorem d_mm_wanted_2 : decode b_mm_wanted 2 = .ok (.iconst 0, 1) := by decide +kernel
theorem d_mm_wanted_3 : decode b_mm_wanted 3 = .ok (.istore_n 3, 1) := by decide +kernel
theorem d_mm_wanted_4 : decode b_mm_wanted 4 = .ok (.iload_n 3, 1) := by decide +kernel
theorem d_mm_wanted_5 : decode b_mm_wanted 5 = .ok (.aload_n 0, 1) := by decide +kernel
theorem d_mm_wanted_6 : decode b_mm_wanted 6 = .ok (.getfield 34, 3) := by decide +kernel
theorem d_mm_wanted_9 : decode b_mm_wanted 9 = .ok (.if_icmp .ge 145, 3) := by decide +kernel
theorem d_mm_wanted_12 : decode b_mm_wanted 12 = .ok (.iconst 0, 1) := by decide +kernel
theorem d_mm_wanted_13 : decode b_mm_wanted 13 = .ok (.istore 4, 2) := by decide +kernel
theorem d_mm_wanted_15 : decode b_mm_wanted 15 = .ok (.iconst 0, 1) := by decide +kernel
theorem d_mm_wanted_16 : decode b_mm_wanted 16 = .ok (.istore 5, 2) := by decide +kernel
theorem d_mm_wanted_18 : decode b_mm_wanted 18 = .ok (.iload 5, 2) := by decide +kernel
theorem d_mm_wanted_20 : decode b_mm_wanted 20 = .ok (.aload_n 0, 1) := by decide +kernel
theorem d_mm_wanted_21 : decode b_mm_wanted 21 = .ok (.getfield 186, 3) := by decide +kernel
theorem d_mm_wanted_24 : decode b_mm_wanted 24 = .ok (.if_icmp .ge 68, 3) := by decide +kernel
theorem d_mm_wanted_27 : decode b_mm_wanted 27 = .ok (.iconst 0, 1) := by decide +kernel
theorem d_mm_wanted_28 : decode b_mm_wanted 28 = .ok (.istore 6, 2) := by decide +kernel
theorem d_mm_wanted_30 : decode b_mm_wanted 30 = .ok (.iload 6, 2) := by decide +kernel
theorem d_mm_wanted_32 : decode b_mm_wanted 32 = .ok (.aload_n 0, 1) := by decide +kernel
theorem d_mm_wanted_33 : decode b_mm_wanted 33 = .ok (.getfield 38, 3) := by decide +kernel
theorem d_mm_wanted_36 : decode b_mm_wanted 36 = .ok (.aload_n 0, 1) := by decide +kernel
theorem d_mm_wanted_37 : decode b_mm_wanted 37 = .ok (.getfield 73, 3) := by decide +kernel
theorem d_mm_wanted_40 : decode b_mm_wanted 40 = .ok (.iload 5, 2) := by decide +kernel
theorem d_mm_wanted_42 : decode b_mm_wanted 42 = .ok (.iaload, 1) := by decide +kernel
theorem d_mm_wanted_43 : decode b_mm_wanted 43 = .ok (.iaload, 1) := by decide +kernel
theorem d_mm_wanted_44 : decode b_mm_wanted 44 = .ok (.if_icmp .ge 42, 3) := by decide +kernel
theorem d_mm_wanted_47 : decode b_mm_wanted 47 = .ok (.iload 4, 2) := by decide +kernel
theorem d_mm_wanted_49 : decode b_mm_wanted 49 = .ok (.ifCond .ne 24, 3) := by decide +kernel
theorem d_mm_wanted_52 : decode b_mm_wanted 52 = .ok (.aload_n 0, 1) := by decide +kernel
theorem d_mm_wanted_53 : decode b_mm_wanted 53 = .ok (.getfield 41, 3) := by decide +kernel
theorem d_mm_wanted_56 : decode b_mm_wanted 56 = .ok (.iconst 4, 1) := by decide +kernel
theorem d_mm_wanted_57 : decode b_mm_wanted 57 = .ok (.aload_n 0, 1) := by decide +kernel
theorem d_mm_wanted_58 : decode b_mm_wanted 58 = .ok (.getfield 73, 3) := by decide +kernel
theorem d_mm_wanted_61 : decode b_mm_wanted 61 = .ok (.iload 5, 2) := by decide +kernel
theorem d_mm_wanted_63 : decode b_mm_wanted 63 = .ok (.iaload, 1) := by decide +kernel
theorem d_mm_wanted_64 : decode b_mm_wanted 64 = .ok (.imul, 1) := by decide +kernel
theorem d_mm_wanted_65 : decode b_mm_wanted 65 = .ok (.iload 6, 2) := by decide +kernel
theorem d_mm_wanted_67 : decode b_mm_wanted 67 = .ok (.iadd, 1) := by decide +kernel
