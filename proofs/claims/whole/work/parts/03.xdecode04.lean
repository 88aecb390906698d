theorem d_bm_template_36 : decode b_bm_template 36 = .ok (.lload_n 3, 1) := by decide +kernel
theorem d_bm_template_37 : decode b_bm_template 37 = .ok (.lconst 0, 1) := by decide +kernel
theorem d_bm_template_38 : decode b_bm_template 38 = .ok (.lcmp, 1) := by decide +kernel
theorem d_bm_template_39 : decode b_bm_template 39 = .ok (.ifCond .eq 44, 3) := by decide +kernel
theorem d_bm_template_42 : decode b_bm_template 42 = .ok (.aload_n 0, 1) := by decide +kernel
theorem d_bm_template_43 : decode b_bm_template 43 = .ok (.getfield 38, 3) := by decide +kernel
theorem d_bm_template_46 : decode b_bm_template 46 = .ok (.lload_n 3, 1) := by decide +kernel
theorem d_bm_template_47 : decode b_bm_template 47 = .ok (.invokevirtual 134, 3) := by decide +kernel
theorem d_bm_template_50 : decode b_bm_template 50 = .ok (.istore 6, 2) := by decide +kernel
theorem d_bm_template_52 : decode b_bm_template 52 = .ok (.aload_n 0, 1) := by decide +kernel
theorem d_bm_template_53 : decode b_bm_template 53 = .ok (.getfield 30, 3) := by decide +kernel
theorem d_bm_template_56 : decode b_bm_template 56 = .ok (.getfield 102, 3) := by decide +kernel
theorem d_bm_template_59 : decode b_bm_template 59 = .ok (.iload 6, 2) := by decide +kernel
theorem d_bm_template_61 : decode b_bm_template 61 = .ok (.invokevirtual 105, 3) := by decide +kernel
theorem d_bm_template_64 : decode b_bm_template 64 = .ok (.pop, 1) := by decide +kernel
theorem d_bm_template_65 : decode b_bm_template 65 = .ok (.lload_n 3, 1) := by decide +kernel
theorem d_bm_template_66 : decode b_bm_template 66 = .ok (.iload 6, 2) := by decide +kernel
theorem d_bm_template_68 : decode b_bm_template 68 = .ok (.invokestatic 138, 3) := by decide +kernel
theorem d_bm_template_71 : decode b_bm_template 71 = .ok (.ldc2_w 142, 3) := by decide +kernel
theorem d_bm_template_74 : decode b_bm_template 74 = .ok (.lxor, 1) := by decide +kernel
theorem d_bm_template_75 : decode b_bm_template 75 = .ok (.land, 1) := by decide +kernel
theorem d_bm_template_76 : decode b_bm_template 76 = .ok (.lstore_n 3, 1) := by decide +kernel
theorem d_bm_template_77 : decode b_bm_template 77 = .ok (.iinc 5 1, 3) := by decide +kernel
theorem d_bm_template_80 : decode b_bm_template 80 = .ok (.goto (-50), 3) := by decide +kernel
theorem d_bm_template_83 : decode b_bm_template 83 = .ok (.iconst 0, 1) := by decide +kernel
theorem d_bm_template_84 : decode b_bm_template 84 = .ok (.istore 5, 2) := by decide +kernel
theorem d_bm_template_86 : decode b_bm_template 86 = .ok (.iload 5, 2) := by decide +kernel
theorem d_bm_template_88 : decode b_bm_template 88 = .ok (.iconst 3, 1) := by decide +kernel
theorem d_bm_template_89 : decode b_bm_template 89 = .ok (.if_icmp .ge 41, 3) := by decide +kernel
theorem d_bm_template_92 : decode b_bm_template 92 = .ok (.iload 5, 2) := by decide +kernel
theorem d_bm_template_94 : decode b_bm_template 94 = .ok (.aload_n 0, 1) := by decide +kernel
theorem d_bm_template_95 : decode b_bm_template 95 = .ok (.getfield 60, 3) := by decide +kernel
theorem d_bm_template_98 : decode b_bm_template 98 = .ok (.getfield 112, 3) := by decide +kernel
theorem d_bm_template_101 : decode b_bm_template 101 = .ok (.if_icmp .ge 29, 3) := by decide +kernel
theorem d_bm_template_104 : decode b_bm_template 104 = .ok (.aload_n 0, 1) := by decide +kernel
theorem d_bm_template_105 : decode b_bm_template 105 = .ok (.getfield 30, 3) := by decide +kernel
theorem d_bm_template_108 : decode b_bm_template 108 = .ok (.getfield 109, 3) := by decide +kernel
theorem d_bm_template_111 : decode b_bm_template 111 = .ok (.aload_n 0, 1) := by decide +kernel
theorem d_bm_template_112 : decode b_bm_template 112 = .ok (.getfield 60, 3) := by decide +kernel
theorem d_bm_template_115 : decode b_bm_template 115 = .ok (.iload 5, 2) := by decide +kernel
theorem d_bm_template_117 : decode b_bm_template 117 = .ok (.invokevirtual 144, 3) := by decide +kernel
theorem d_bm_template_120 : decode b_bm_template 120 = .ok (.invokevirtual 105, 3) := by decide +kernel
theorem d_bm_template_123 : decode b_bm_template 123 = .ok (.pop, 1) := by decide +kernel
theorem d_bm_template_124 : decode b_bm_template 124 = .ok (.iinc 5 1, 3) := by decide +kernel
theorem d_bm_template_127 : decode b_bm_template 127 = .ok (.goto (-41), 3) := by decide +kernel
theorem d_bm_template_130 : decode b_bm_template 130 = .ok (.aload_n 0, 1) := by decide +kernel
theorem d_bm_template_131 : decode b_bm_template 131 = .ok (.getfield 19, 3) := by decide +kernel
theorem d_bm_template_134 : decode b_bm_template 134 = .ok (.aload_n 0, 1) := by decide +kernel
theorem d_bm_template_135 : decode b_bm_template 135 = .ok (.getfield 30, 3) := by decide +kernel
theorem d_bm_template_138 : decode b_bm_template 138 = .ok (.aload_n 0, 1) := by decide +kernel
theorem d_bm_template_139 : decode b_bm_template 139 = .ok (.getfield 12, 3) := by decide +kernel
theorem d_bm_template_142 : decode b_bm_template 142 = .ok (.iload_n 1, 1) := by decide +kernel
theorem d_bm_template_143 : decode b_bm_template 143 = .ok (.invokestatic 88, 3) := by decide +kernel
theorem d_bm_template_146 : decode b_bm_template 146 = .ok (.iload_n 2, 1) := by decide +kernel
theorem d_bm_template_147 : decode b_bm_template 147 = .ok (.invokevirtual 120, 3) := by decide +kernel
theorem d_bm_template_150 : decode b_bm_template 150 = .ok (.ireturn, 1) := by decide +kernel
theorem d_bl_isWorked_0 : decode b_bl_isWorked 0 = .ok (.iload_n 1, 1) := by decide +kernel
theorem d_bl_isWorked_1 : decode b_bl_isWorked 1 = .ok (.ifCond .eq 14, 3) := by decide +kernel
theorem d_bl_isWorked_4 : decode b_bl_isWorked 4 = .ok (.aload_n 0, 1) := by decide +kernel
theorem d_bl_isWorked_5 : decode b_bl_isWorked 5 = .ok (.getfield 27, 3) := by decide +kernel
theorem d_bl_isWorked_8 : decode b_bl_isWorked 8 = .ok (.iload_n 1, 1) := by decide +kernel
theorem d_bl_isWorked_9 : decode b_bl_isWorked 9 = .ok (.iaload, 1) := by decide +kernel
theorem d_bl_isWorked_10 : decode b_bl_isWorked 10 = .ok (.ldc 39, 2) := by decide +kernel
theorem d_bl_isWorked_12 : decode b_bl_isWorked 12 = .ok (.if_icmp .ge 7, 3) := by decide +kernel
theorem d_bl_isWorked_15 : decode b_bl_isWorked 15 = .ok (.iconst 1, 1) := by decide +kernel
theorem d_bl_isWorked_16 : decode b_bl_isWorked 16 = .ok (.goto 4, 3) := by decide +kernel
theorem d_bl_isWorked_19 : decode b_bl_isWorked 19 = .ok (.iconst 0, 1) := by decide +kernel
theorem d_bl_isWorked_20 : decode b_bl_isWorked 20 = .ok (.ireturn, 1) := by decide +kernel
theorem d_dg_has_0 : decode b_dg_has 0 = .ok (.aload_n 0, 1) := by decide +kernel
theorem d_dg_has_1 : decode b_dg_has 1 = .ok (.getfield 42, 3) := by decide +kernel
theorem d_dg_has_4 : decode b_dg_has 4 = .ok (.iload_n 1, 1) := by decide +kernel
theorem d_dg_has_5 : decode b_dg_has 5 = .ok (.invokestatic 52, 3) := by decide +kernel
theorem d_dg_has_8 : decode b_dg_has 8 = .ok (.ireturn, 1) := by decide +kernel
theorem d_dg_hasParentsOf_0 : decode b_dg_hasParentsOf 0 = .ok (.aload_n 0, 1) := by decide +kernel
theorem d_dg_hasParentsOf_1 : decode b_dg_hasParentsOf 1 = .ok (.getfield 34, 3) := by decide +kernel
theorem d_dg_hasParentsOf_4 : decode b_dg_hasParentsOf 4 = .ok (.iload_n 1, 1) := by decide +kernel
theorem d_dg_hasParentsOf_5 : decode b_dg_hasParentsOf 5 = .ok (.invokevirtual 56, 3) := by decide +kernel
theorem d_dg_hasParentsOf_8 : decode b_dg_hasParentsOf 8 = .ok (.aload_n 0, 1) := by decide +kernel
theorem d_dg_hasParentsOf_9 : decode b_dg_hasParentsOf 9 = .ok (.getfield 42, 3) := by decide +kernel
theorem d_dg_hasParentsOf_12 : decode b_dg_hasParentsOf 12 = .ok (.ldc2_w 62, 3) := by decide +kernel
theorem d_dg_hasParentsOf_15 : decode b_dg_hasParentsOf 15 = .ok (.lxor, 1) := by decide +kernel
theorem d_dg_hasParentsOf_16 : decode b_dg_hasParentsOf 16 = .ok (.land, 1) := by decide +kernel
theorem d_dg_hasParentsOf_17 : decode b_dg_hasParentsOf 17 = .ok (.lconst 0, 1) := by decide +kernel
theorem d_dg_hasParentsOf_18 : decode b_dg_hasParentsOf 18 = .ok (.lcmp, 1) := by decide +kernel
theorem d_dg_hasParentsOf_19 : decode b_dg_hasParentsOf 19 = .ok (.ifCond .ne 7, 3) := by decide +kernel
theorem d_dg_hasParentsOf_22 : decode b_dg_hasParentsOf 22 = .ok (.iconst 1, 1) := by decide +kernel
theorem d_dg_hasParentsOf_23 : decode b_dg_hasParentsOf 23 = .ok (.goto 4, 3) := by decide +kernel
theorem d_dg_hasParentsOf_26 : decode b_dg_hasParentsOf 26 = .ok (.iconst 0, 1) := by decide +kernel
theorem d_dg_hasParentsOf_27 : decode b_dg_hasParentsOf 27 = .ok (.ireturn, 1) := by decide +kernel
theorem d_bm_keepOrphan_0 : decode b_bm_keepOrphan 0 = .ok (.aload_n 0, 1) := by decide +kernel
theorem d_bm_keepOrphan_1 : decode b_bm_keepOrphan 1 = .ok (.getfield 47, 3) := by decide +kernel
theorem d_bm_keepOrphan_4 : decode b_bm_keepOrphan 4 = .ok (.invokevirtual 238, 3) := by decide +kernel
theorem d_bm_keepOrphan_7 : decode b_bm_keepOrphan 7 = .ok (.ifCond .eq 11, 3) := by decide +kernel
theorem d_bm_keepOrphan_10 : decode b_bm_keepOrphan 10 = .ok (.aload_n 0, 1) := by decide +kernel
theorem d_bm_keepOrphan_11 : decode b_bm_keepOrphan 11 = .ok (.getfield 47, 3) := by decide +kernel
theorem d_bm_keepOrphan_14 : decode b_bm_keepOrphan 14 = .ok (.iconst 0, 1) := by decide +kernel
theorem d_bm_keepOrphan_15 : decode b_bm_keepOrphan 15 = .ok (.invokevirtual 239, 3) := by decide +kernel
theorem d_bm_keepOrphan_18 : decode b_bm_keepOrphan 18 = .ok (.aload_n 0, 1) := by decide +kernel
theorem d_bm_keepOrphan_19 : decode b_bm_keepOrphan 19 = .ok (.getfield 47, 3) := by decide +kernel
theorem d_bm_keepOrphan_22 : decode b_bm_keepOrphan 22 = .ok (.iload_n 1, 1) := by decide +kernel
theorem d_bm_keepOrphan_23 : decode b_bm_keepOrphan 23 = .ok (.invokevirtual 105, 3) := by decide +kernel
theorem d_bm_keepOrphan_26 : decode b_bm_keepOrphan 26 = .ok (.pop, 1) := by decide +kernel
theorem d_bm_keepOrphan_27 : decode b_bm_keepOrphan 27 = .ok (.return_, 1) := by decide +kernel
theorem d_dg_parentsOverlap_0 : decode b_dg_parentsOverlap 0 = .ok (.aload_n 0, 1) := by decide +kernel
theorem d_dg_parentsOverlap_1 : decode b_dg_parentsOverlap 1 = .ok (.getfield 34, 3) := by decide +kernel
theorem d_dg_parentsOverlap_4 : decode b_dg_parentsOverlap 4 = .ok (.iload_n 1, 1) := by decide +kernel
theorem d_dg_parentsOverlap_5 : decode b_dg_parentsOverlap 5 = .ok (.invokevirtual 56, 3) := by decide +kernel
theorem d_dg_parentsOverlap_8 : decode b_dg_parentsOverlap 8 = .ok (.lstore_n 2, 1) := by decide +kernel
theorem d_dg_parentsOverlap_9 : decode b_dg_parentsOverlap 9 = .ok (.lload_n 2, 1) := by decide +kernel
theorem d_dg_parentsOverlap_10 : decode b_dg_parentsOverlap 10 = .ok (.aload_n 0, 1) := by decide +kernel
theorem d_dg_parentsOverlap_11 : decode b_dg_parentsOverlap 11 = .ok (.lload_n 2, 1) := by decide +kernel
theorem d_dg_parentsOverlap_12 : decode b_dg_parentsOverlap 12 = .ok (.invokevirtual 64, 3) := by decide +kernel
theorem d_dg_parentsOverlap_15 : decode b_dg_parentsOverlap 15 = .ok (.land, 1) := by decide +kernel
theorem d_dg_parentsOverlap_16 : decode b_dg_parentsOverlap 16 = .ok (.lconst 0, 1) := by decide +kernel
theorem d_dg_parentsOverlap_17 : decode b_dg_parentsOverlap 17 = .ok (.lcmp, 1) := by decide +kernel
theorem d_dg_parentsOverlap_18 : decode b_dg_parentsOverlap 18 = .ok (.ifCond .eq 7, 3) := by decide +kernel
theorem d_dg_parentsOverlap_21 : decode b_dg_parentsOverlap 21 = .ok (.iconst 1, 1) := by decide +kernel
theorem d_dg_parentsOverlap_22 : decode b_dg_parentsOverlap 22 = .ok (.goto 4, 3) := by decide +kernel
theorem d_dg_parentsOverlap_25 : decode b_dg_parentsOverlap 25 = .ok (.iconst 0, 1) := by decide +kernel
theorem d_dg_parentsOverlap_26 : decode b_dg_parentsOverlap 26 = .ok (.ireturn, 1) := by decide +kernel
theorem d_bm_readyOrphan_0 : decode b_bm_readyOrphan 0 = .ok (.iconst (-1), 1) := by decide +kernel
theorem d_bm_readyOrphan_1 : decode b_bm_readyOrphan 1 = .ok (.istore_n 1, 1) := by decide +kernel
theorem d_bm_readyOrphan_2 : decode b_bm_readyOrphan 2 = .ok (.iconst 0, 1) := by decide +kernel
theorem d_bm_readyOrphan_3 : decode b_bm_readyOrphan 3 = .ok (.istore_n 2, 1) := by decide +kernel
theorem d_bm_readyOrphan_4 : decode b_bm_readyOrphan 4 = .ok (.iload_n 2, 1) := by decide +kernel
theorem d_bm_readyOrphan_5 : decode b_bm_readyOrphan 5 = .ok (.aload_n 0, 1) := by decide +kernel
theorem d_bm_readyOrphan_6 : decode b_bm_readyOrphan 6 = .ok (.getfield 47, 3) := by decide +kernel
theorem d_bm_readyOrphan_9 : decode b_bm_readyOrphan 9 = .ok (.getfield 112, 3) := by decide +kernel
theorem d_bm_readyOrphan_12 : decode b_bm_readyOrphan 12 = .ok (.if_icmp .ge 48, 3) := by decide +kernel
theorem d_bm_readyOrphan_15 : decode b_bm_readyOrphan 15 = .ok (.aload_n 0, 1) := by decide +kernel
theorem d_bm_readyOrphan_16 : decode b_bm_readyOrphan 16 = .ok (.getfield 47, 3) := by decide +kernel
theorem d_bm_readyOrphan_19 : decode b_bm_readyOrphan 19 = .ok (.iload_n 2, 1) := by decide +kernel
theorem d_bm_readyOrphan_20 : decode b_bm_readyOrphan 20 = .ok (.invokevirtual 144, 3) := by decide +kernel
theorem d_bm_readyOrphan_23 : decode b_bm_readyOrphan 23 = .ok (.istore_n 3, 1) := by decide +kernel
theorem d_bm_readyOrphan_24 : decode b_bm_readyOrphan 24 = .ok (.aload_n 0, 1) := by decide +kernel
theorem d_bm_readyOrphan_25 : decode b_bm_readyOrphan 25 = .ok (.getfield 38, 3) := by decide +kernel
theorem d_bm_readyOrphan_28 : decode b_bm_readyOrphan 28 = .ok (.iload_n 3, 1) := by decide +kernel
theorem d_bm_readyOrphan_29 : decode b_bm_readyOrphan 29 = .ok (.invokevirtual 152, 3) := by decide +kernel
theorem d_bm_readyOrphan_32 : decode b_bm_readyOrphan 32 = .ok (.ifCond .eq 22, 3) := by decide +kernel
theorem d_bm_readyOrphan_35 : decode b_bm_readyOrphan 35 = .ok (.iload_n 1, 1) := by decide +kernel
theorem d_bm_readyOrphan_36 : decode b_bm_readyOrphan 36 = .ok (.iconst (-1), 1) := by decide +kernel
theorem d_bm_readyOrphan_37 : decode b_bm_readyOrphan 37 = .ok (.if_icmp .eq 15, 3) := by decide +kernel
theorem d_bm_readyOrphan_40 : decode b_bm_readyOrphan 40 = .ok (.iload_n 3, 1) := by decide +kernel
theorem d_bm_readyOrphan_41 : decode b_bm_readyOrphan 41 = .ok (.aload_n 0, 1) := by decide +kernel
theorem d_bm_readyOrphan_42 : decode b_bm_readyOrphan 42 = .ok (.getfield 47, 3) := by decide +kernel
theorem d_bm_readyOrphan_45 : decode b_bm_readyOrphan 45 = .ok (.iload_n 1, 1) := by decide +kernel
theorem d_bm_readyOrphan_46 : decode b_bm_readyOrphan 46 = .ok (.invokevirtual 144, 3) := by decide +kernel
theorem d_bm_readyOrphan_49 : decode b_bm_readyOrphan 49 = .ok (.if_icmp .ge 5, 3) := by decide +kernel
theorem d_bm_readyOrphan_52 : decode b_bm_readyOrphan 52 = .ok (.iload_n 2, 1) := by decide +kernel
theorem d_bm_readyOrphan_53 : decode b_bm_readyOrphan 53 = .ok (.istore_n 1, 1) := by decide +kernel
theorem d_bm_readyOrphan_54 : decode b_bm_readyOrphan 54 = .ok (.iinc 2 1, 3) := by decide +kernel
theorem d_bm_readyOrphan_57 : decode b_bm_readyOrphan 57 = .ok (.goto (-53), 3) := by decide +kernel
theorem d_bm_readyOrphan_60 : decode b_bm_readyOrphan 60 = .ok (.iload_n 1, 1) := by decide +kernel
theorem d_bm_readyOrphan_61 : decode b_bm_readyOrphan 61 = .ok (.ireturn, 1) := by decide +kernel
theorem d_bm_attachOrphans_0 : decode b_bm_attachOrphans 0 = .ok (.iconst 0, 1) := by decide +kernel
theorem d_bm_attachOrphans_1 : decode b_bm_attachOrphans 1 = .ok (.istore_n 1, 1) := by decide +kernel
theorem d_bm_attachOrphans_2 : decode b_bm_attachOrphans 2 = .ok (.iload_n 1, 1) := by decide +kernel
theorem d_bm_attachOrphans_3 : decode b_bm_attachOrphans 3 = .ok (.iconst 4, 1) := by decide +kernel
theorem d_bm_attachOrphans_4 : decode b_bm_attachOrphans 4 = .ok (.if_icmp .ge 56, 3) := by decide +kernel
theorem d_bm_attachOrphans_7 : decode b_bm_attachOrphans 7 = .ok (.aload_n 0, 1) := by decide +kernel
theorem d_bm_attachOrphans_8 : decode b_bm_attachOrphans 8 = .ok (.invokevirtual 242, 3) := by decide +kernel
theorem d_bm_attachOrphans_11 : decode b_bm_attachOrphans 11 = .ok (.istore_n 2, 1) := by decide +kernel
theorem d_bm_attachOrphans_12 : decode b_bm_attachOrphans 12 = .ok (.iload_n 2, 1) := by decide +kernel
theorem d_bm_attachOrphans_13 : decode b_bm_attachOrphans 13 = .ok (.iconst (-1), 1) := by decide +kernel
theorem d_bm_attachOrphans_14 : decode b_bm_attachOrphans 14 = .ok (.if_icmp .ne 4, 3) := by decide +kernel
theorem d_bm_attachOrphans_17 : decode b_bm_attachOrphans 17 = .ok (.return_, 1) := by decide +kernel
theorem d_bm_attachOrphans_18 : decode b_bm_attachOrphans 18 = .ok (.aload_n 0, 1) := by decide +kernel
theorem d_bm_attachOrphans_19 : decode b_bm_attachOrphans 19 = .ok (.getfield 47, 3) := by decide +kernel
theorem d_bm_attachOrphans_22 : decode b_bm_attachOrphans 22 = .ok (.iload_n 2, 1) := by decide +kernel
theorem d_bm_attachOrphans_23 : decode b_bm_attachOrphans 23 = .ok (.invokevirtual 144, 3) := by decide +kernel
theorem d_bm_attachOrphans_26 : decode b_bm_attachOrphans 26 = .ok (.istore_n 3, 1) := by decide +kernel
theorem d_bm_attachOrphans_27 : decode b_bm_attachOrphans 27 = .ok (.aload_n 0, 1) := by decide +kernel
theorem d_bm_attachOrphans_28 : decode b_bm_attachOrphans 28 = .ok (.getfield 47, 3) := by decide +kernel
theorem d_bm_attachOrphans_31 : decode b_bm_attachOrphans 31 = .ok (.iload_n 2, 1) := by decide +kernel
theorem d_bm_attachOrphans_32 : decode b_bm_attachOrphans 32 = .ok (.invokevirtual 239, 3) := by decide +kernel
theorem d_bm_attachOrphans_35 : decode b_bm_attachOrphans 35 = .ok (.aload_n 0, 1) := by decide +kernel
theorem d_bm_attachOrphans_36 : decode b_bm_attachOrphans 36 = .ok (.getfield 38, 3) := by decide +kernel
theorem d_bm_attachOrphans_39 : decode b_bm_attachOrphans 39 = .ok (.iload_n 3, 1) := by decide +kernel
theorem d_bm_attachOrphans_40 : decode b_bm_attachOrphans 40 = .ok (.invokevirtual 158, 3) := by decide +kernel
theorem d_bm_attachOrphans_43 : decode b_bm_attachOrphans 43 = .ok (.ifCond .ne 11, 3) := by decide +kernel
theorem d_bm_attachOrphans_46 : decode b_bm_attachOrphans 46 = .ok (.aload_n 0, 1) := by decide +kernel
theorem d_bm_attachOrphans_47 : decode b_bm_attachOrphans 47 = .ok (.getfield 38, 3) := by decide +kernel
theorem d_bm_attachOrphans_50 : decode b_bm_attachOrphans 50 = .ok (.iload_n 3, 1) := by decide +kernel
theorem d_bm_attachOrphans_51 : decode b_bm_attachOrphans 51 = .ok (.invokevirtual 66, 3) := by decide +kernel
theorem d_bm_attachOrphans_54 : decode b_bm_attachOrphans 54 = .ok (.iinc 1 1, 3) := by decide +kernel
theorem d_bm_attachOrphans_57 : decode b_bm_attachOrphans 57 = .ok (.goto (-55), 3) := by decide +kernel
theorem d_bm_attachOrphans_60 : decode b_bm_attachOrphans 60 = .ok (.return_, 1) := by decide +kernel
theorem d_bm_receive_0 : decode b_bm_receive 0 = .ok (.aload_n 0, 1) := by decide +kernel
theorem d_bm_receive_1 : decode b_bm_receive 1 = .ok (.getfield 19, 3) := by decide +kernel
theorem d_bm_receive_4 : decode b_bm_receive 4 = .ok (.iload_n 1, 1) := by decide +kernel
theorem d_bm_receive_5 : decode b_bm_receive 5 = .ok (.invokevirtual 99, 3) := by decide +kernel
theorem d_bm_receive_8 : decode b_bm_receive 8 = .ok (.ifCond .ne 5, 3) := by decide +kernel
theorem d_bm_receive_11 : decode b_bm_receive 11 = .ok (.iconst (-1), 1) := by decide +kernel
theorem d_bm_receive_12 : decode b_bm_receive 12 = .ok (.ireturn, 1) := by decide +kernel
theorem d_bm_receive_13 : decode b_bm_receive 13 = .ok (.aload_n 0, 1) := by decide +kernel
theorem d_bm_receive_14 : decode b_bm_receive 14 = .ok (.getfield 19, 3) := by decide +kernel
theorem d_bm_receive_17 : decode b_bm_receive 17 = .ok (.iload_n 1, 1) := by decide +kernel
theorem d_bm_receive_18 : decode b_bm_receive 18 = .ok (.invokevirtual 147, 3) := by decide +kernel
theorem d_bm_receive_21 : decode b_bm_receive 21 = .ok (.ifCond .ne 6, 3) := by decide +kernel
theorem d_bm_receive_24 : decode b_bm_receive 24 = .ok (.bipush (-2), 2) := by decide +kernel
theorem d_bm_receive_26 : decode b_bm_receive 26 = .ok (.ireturn, 1) := by decide +kernel
theorem d_bm_receive_27 : decode b_bm_receive 27 = .ok (.aload_n 0, 1) := by decide +kernel
theorem d_bm_receive_28 : decode b_bm_receive 28 = .ok (.getfield 38, 3) := by decide +kernel
theorem d_bm_receive_31 : decode b_bm_receive 31 = .ok (.iload_n 1, 1) := by decide +kernel
theorem d_bm_receive_32 : decode b_bm_receive 32 = .ok (.invokevirtual 150, 3) := by decide +kernel
theorem d_bm_receive_35 : decode b_bm_receive 35 = .ok (.ifCond .ne 14, 3) := by decide +kernel
theorem d_bm_receive_38 : decode b_bm_receive 38 = .ok (.aload_n 0, 1) := by decide +kernel
theorem d_bm_receive_39 : decode b_bm_receive 39 = .ok (.getfield 47, 3) := by decide +kernel
theorem d_bm_receive_42 : decode b_bm_receive 42 = .ok (.iload_n 1, 1) := by decide +kernel
theorem d_bm_receive_43 : decode b_bm_receive 43 = .ok (.invokevirtual 151, 3) := by decide +kernel
theorem d_bm_receive_46 : decode b_bm_receive 46 = .ok (.ifCond .eq 6, 3) := by decide +kernel
theorem d_bm_receive_49 : decode b_bm_receive 49 = .ok (.bipush (-3), 2) := by decide +kernel
theorem d_bm_receive_51 : decode b_bm_receive 51 = .ok (.ireturn, 1) := by decide +kernel
theorem d_bm_receive_52 : decode b_bm_receive 52 = .ok (.aload_n 0, 1) := by decide +kernel
theorem d_bm_receive_53 : decode b_bm_receive 53 = .ok (.getfield 38, 3) := by decide +kernel
theorem d_bm_receive_56 : decode b_bm_receive 56 = .ok (.iload_n 1, 1) := by decide +kernel
theorem d_bm_receive_57 : decode b_bm_receive 57 = .ok (.invokevirtual 152, 3) := by decide +kernel
theorem d_bm_receive_60 : decode b_bm_receive 60 = .ok (.ifCond .ne 10, 3) := by decide +kernel
theorem d_bm_receive_63 : decode b_bm_receive 63 = .ok (.aload_n 0, 1) := by decide +kernel
theorem d_bm_receive_64 : decode b_bm_receive 64 = .ok (.iload_n 1, 1) := by decide +kernel
theorem d_bm_receive_65 : decode b_bm_receive 65 = .ok (.invokevirtual 155, 3) := by decide +kernel
theorem d_bm_receive_68 : decode b_bm_receive 68 = .ok (.iconst 1, 1) := by decide +kernel
theorem d_bm_receive_69 : decode b_bm_receive 69 = .ok (.ireturn, 1) := by decide +kernel
theorem d_bm_receive_70 : decode b_bm_receive 70 = .ok (.aload_n 0, 1) := by decide +kernel
theorem d_bm_receive_71 : decode b_bm_receive 71 = .ok (.getfield 38, 3) := by decide +kernel
theorem d_bm_receive_74 : decode b_bm_receive 74 = .ok (.iload_n 1, 1) := by decide +kernel
theorem d_bm_receive_75 : decode b_bm_receive 75 = .ok (.invokevirtual 158, 3) := by decide +kernel
theorem d_bm_receive_78 : decode b_bm_receive 78 = .ok (.ifCond .eq 6, 3) := by decide +kernel
theorem d_bm_receive_81 : decode b_bm_receive 81 = .ok (.bipush (-4), 2) := by decide +kernel
theorem d_bm_receive_83 : decode b_bm_receive 83 = .ok (.ireturn, 1) := by decide +kernel
theorem d_bm_receive_84 : decode b_bm_receive 84 = .ok (.aload_n 0, 1) := by decide +kernel
theorem d_bm_receive_85 : decode b_bm_receive 85 = .ok (.getfield 38, 3) := by decide +kernel
theorem d_bm_receive_88 : decode b_bm_receive 88 = .ok (.iload_n 1, 1) := by decide +kernel
theorem d_bm_receive_89 : decode b_bm_receive 89 = .ok (.invokevirtual 66, 3) := by decide +kernel
theorem d_bm_receive_92 : decode b_bm_receive 92 = .ok (.aload_n 0, 1) := by decide +kernel
theorem d_bm_receive_93 : decode b_bm_receive 93 = .ok (.invokevirtual 161, 3) := by decide +kernel
theorem d_bm_receive_96 : decode b_bm_receive 96 = .ok (.aload_n 0, 1) := by decide +kernel
theorem d_bm_receive_97 : decode b_bm_receive 97 = .ok (.invokevirtual 69, 3) := by decide +kernel
theorem d_bm_receive_100 : decode b_bm_receive 100 = .ok (.iconst 0, 1) := by decide +kernel
theorem d_bm_receive_101 : decode b_bm_receive 101 = .ok (.ireturn, 1) := by decide +kernel
theorem d_bm_submit_0 : decode b_bm_submit 0 = .ok (.aload_n 0, 1) := by decide +kernel
theorem d_bm_submit_1 : decode b_bm_submit 1 = .ok (.getfield 12, 3) := by decide +kernel
theorem d_bm_submit_4 : decode b_bm_submit 4 = .ok (.iload_n 1, 1) := by decide +kernel
theorem d_bm_submit_5 : decode b_bm_submit 5 = .ok (.invokevirtual 108, 3) := by decide +kernel
theorem d_bm_submit_8 : decode b_bm_submit 8 = .ok (.ifCond .ne 5, 3) := by decide +kernel
theorem d_bm_submit_11 : decode b_bm_submit 11 = .ok (.iconst (-1), 1) := by decide +kernel
theorem d_bm_submit_12 : decode b_bm_submit 12 = .ok (.ireturn, 1) := by decide +kernel
theorem d_bm_submit_13 : decode b_bm_submit 13 = .ok (.aload_n 0, 1) := by decide +kernel
theorem d_bm_submit_14 : decode b_bm_submit 14 = .ok (.getfield 63, 3) := by decide +kernel
theorem d_bm_submit_17 : decode b_bm_submit 17 = .ok (.iload_n 1, 1) := by decide +kernel
theorem d_bm_submit_18 : decode b_bm_submit 18 = .ok (.invokevirtual 164, 3) := by decide +kernel
theorem d_bm_submit_21 : decode b_bm_submit 21 = .ok (.ifCond .eq 6, 3) := by decide +kernel
theorem d_bm_submit_24 : decode b_bm_submit 24 = .ok (.bipush (-2), 2) := by decide +kernel
theorem d_bm_submit_26 : decode b_bm_submit 26 = .ok (.ireturn, 1) := by decide +kernel
theorem d_bm_submit_27 : decode b_bm_submit 27 = .ok (.aload_n 0, 1) := by decide +kernel
theorem d_bm_submit_28 : decode b_bm_submit 28 = .ok (.getfield 63, 3) := by decide +kernel
theorem d_bm_submit_31 : decode b_bm_submit 31 = .ok (.iload_n 1, 1) := by decide +kernel
theorem d_bm_submit_32 : decode b_bm_submit 32 = .ok (.invokevirtual 167, 3) := by decide +kernel
theorem d_bm_submit_35 : decode b_bm_submit 35 = .ok (.iconst (-1), 1) := by decide +kernel
theorem d_bm_submit_36 : decode b_bm_submit 36 = .ok (.if_icmp .ne 6, 3) := by decide +kernel
theorem d_bm_submit_39 : decode b_bm_submit 39 = .ok (.bipush (-3), 2) := by decide +kernel
theorem d_bm_submit_41 : decode b_bm_submit 41 = .ok (.ireturn, 1) := by decide +kernel
theorem d_bm_submit_42 : decode b_bm_submit 42 = .ok (.aload_n 0, 1) := by decide +kernel
theorem d_bm_submit_43 : decode b_bm_submit 43 = .ok (.getfield 60, 3) := by decide +kernel
theorem d_bm_submit_46 : decode b_bm_submit 46 = .ok (.iload_n 1, 1) := by decide +kernel
theorem d_bm_submit_47 : decode b_bm_submit 47 = .ok (.invokevirtual 105, 3) := by decide +kernel
theorem d_bm_submit_50 : decode b_bm_submit 50 = .ok (.ifCond .ne 6, 3) := by decide +kernel
theorem d_bm_submit_53 : decode b_bm_submit 53 = .ok (.bipush (-4), 2) := by decide +kernel
theorem d_bm_submit_55 : decode b_bm_submit 55 = .ok (.ireturn, 1) := by decide +kernel
theorem d_bm_submit_56 : decode b_bm_submit 56 = .ok (.aload_n 0, 1) := by decide +kernel
theorem d_bm_submit_57 : decode b_bm_submit 57 = .ok (.getfield 63, 3) := by decide +kernel
theorem d_bm_submit_60 : decode b_bm_submit 60 = .ok (.iload_n 1, 1) := by decide +kernel
theorem d_bm_submit_61 : decode b_bm_submit 61 = .ok (.invokevirtual 170, 3) := by decide +kernel
theorem d_bm_submit_64 : decode b_bm_submit 64 = .ok (.pop, 1) := by decide +kernel
theorem d_bm_submit_65 : decode b_bm_submit 65 = .ok (.iconst 0, 1) := by decide +kernel
theorem d_bm_submit_66 : decode b_bm_submit 66 = .ok (.ireturn, 1) := by decide +kernel
theorem d_bm_standingOf_0 : decode b_bm_standingOf 0 = .ok (.aload_n 0, 1) := by decide +kernel
theorem d_bm_standingOf_1 : decode b_bm_standingOf 1 = .ok (.getfield 47, 3) := by decide +kernel
theorem d_bm_standingOf_4 : decode b_bm_standingOf 4 = .ok (.iload_n 1, 1) := by decide +kernel
theorem d_bm_standingOf_5 : decode b_bm_standingOf 5 = .ok (.invokevirtual 151, 3) := by decide +kernel
theorem d_bm_standingOf_8 : decode b_bm_standingOf 8 = .ok (.ifCond .eq 5, 3) := by decide +kernel
theorem d_bm_standingOf_11 : decode b_bm_standingOf 11 = .ok (.iconst 3, 1) := by decide +kernel
theorem d_bm_standingOf_12 : decode b_bm_standingOf 12 = .ok (.ireturn, 1) := by decide +kernel
theorem d_bm_standingOf_13 : decode b_bm_standingOf 13 = .ok (.aload_n 0, 1) := by decide +kernel
theorem d_bm_standingOf_14 : decode b_bm_standingOf 14 = .ok (.getfield 38, 3) := by decide +kernel
theorem d_bm_standingOf_17 : decode b_bm_standingOf 17 = .ok (.iload_n 1, 1) := by decide +kernel
theorem d_bm_standingOf_18 : decode b_bm_standingOf 18 = .ok (.invokevirtual 150, 3) := by decide +kernel
theorem d_bm_standingOf_21 : decode b_bm_standingOf 21 = .ok (.ifCond .ne 5, 3) := by decide +kernel
theorem d_bm_standingOf_24 : decode b_bm_standingOf 24 = .ok (.iconst 0, 1) := by decide +kernel
theorem d_bm_standingOf_25 : decode b_bm_standingOf 25 = .ok (.ireturn, 1) := by decide +kernel
theorem d_bm_standingOf_26 : decode b_bm_standingOf 26 = .ok (.aload_n 0, 1) := by decide +kernel
theorem d_bm_standingOf_27 : decode b_bm_standingOf 27 = .ok (.getfield 38, 3) := by decide +kernel
theorem d_bm_standingOf_30 : decode b_bm_standingOf 30 = .ok (.iload_n 1, 1) := by decide +kernel
theorem d_bm_standingOf_31 : decode b_bm_standingOf 31 = .ok (.invokevirtual 235, 3) := by decide +kernel
theorem d_bm_standingOf_34 : decode b_bm_standingOf 34 = .ok (.ifCond .eq 7, 3) := by decide +kernel
theorem d_bm_standingOf_37 : decode b_bm_standingOf 37 = .ok (.iconst 2, 1) := by decide +kernel
theorem d_bm_standingOf_38 : decode b_bm_standingOf 38 = .ok (.goto 4, 3) := by decide +kernel
theorem d_bm_standingOf_41 : decode b_bm_standingOf 41 = .ok (.iconst 1, 1) := by decide +kernel
theorem d_bm_standingOf_42 : decode b_bm_standingOf 42 = .ok (.ireturn, 1) := by decide +kernel
theorem d_dg_placeOf_0 : decode b_dg_placeOf 0 = .ok (.iconst 0, 1) := by decide +kernel
theorem d_dg_placeOf_1 : decode b_dg_placeOf 1 = .ok (.istore_n 2, 1) := by decide +kernel
theorem d_dg_placeOf_2 : decode b_dg_placeOf 2 = .ok (.iload_n 2, 1) := by decide +kernel
theorem d_dg_placeOf_3 : decode b_dg_placeOf 3 = .ok (.aload_n 0, 1) := by decide +kernel
theorem d_dg_placeOf_4 : decode b_dg_placeOf 4 = .ok (.invokevirtual 68, 3) := by decide +kernel
theorem d_dg_placeOf_7 : decode b_dg_placeOf 7 = .ok (.if_icmp .ge 21, 3) := by decide +kernel
theorem d_dg_placeOf_10 : decode b_dg_placeOf 10 = .ok (.aload_n 0, 1) := by decide +kernel
theorem d_dg_placeOf_11 : decode b_dg_placeOf 11 = .ok (.getfield 28, 3) := by decide +kernel
theorem d_dg_placeOf_14 : decode b_dg_placeOf 14 = .ok (.iload_n 2, 1) := by decide +kernel
theorem d_dg_placeOf_15 : decode b_dg_placeOf 15 = .ok (.iaload, 1) := by decide +kernel
theorem d_dg_placeOf_16 : decode b_dg_placeOf 16 = .ok (.iload_n 1, 1) := by decide +kernel
theorem d_dg_placeOf_17 : decode b_dg_placeOf 17 = .ok (.if_icmp .ne 5, 3) := by decide +kernel
theorem d_dg_placeOf_20 : decode b_dg_placeOf 20 = .ok (.iload_n 2, 1) := by decide +kernel
theorem d_dg_placeOf_21 : decode b_dg_placeOf 21 = .ok (.ireturn, 1) := by decide +kernel
theorem d_dg_placeOf_22 : decode b_dg_placeOf 22 = .ok (.iinc 2 1, 3) := by decide +kernel
theorem d_dg_placeOf_25 : decode b_dg_placeOf 25 = .ok (.goto (-23), 3) := by decide +kernel
theorem d_dg_placeOf_28 : decode b_dg_placeOf 28 = .ok (.iconst (-1), 1) := by decide +kernel
theorem d_dg_placeOf_29 : decode b_dg_placeOf 29 = .ok (.ireturn, 1) := by decide +kernel
theorem d_bm_block_0 : decode b_bm_block 0 = .ok (.aload_n 0, 1) := by decide +kernel
theorem d_bm_block_1 : decode b_bm_block 1 = .ok (.getfield 19, 3) := by decide +kernel
theorem d_bm_block_4 : decode b_bm_block 4 = .ok (.iload_n 1, 1) := by decide +kernel
theorem d_bm_block_5 : decode b_bm_block 5 = .ok (.invokevirtual 99, 3) := by decide +kernel
theorem d_bm_block_8 : decode b_bm_block 8 = .ok (.ifCond .ne 5, 3) := by decide +kernel
theorem d_bm_block_11 : decode b_bm_block 11 = .ok (.iconst (-1), 1) := by decide +kernel
theorem d_bm_block_12 : decode b_bm_block 12 = .ok (.ireturn, 1) := by decide +kernel
theorem d_bm_block_13 : decode b_bm_block 13 = .ok (.iload_n 2, 1) := by decide +kernel
theorem d_bm_block_14 : decode b_bm_block 14 = .ok (.ifCond .ne 9, 3) := by decide +kernel
theorem d_bm_block_17 : decode b_bm_block 17 = .ok (.aload_n 0, 1) := by decide +kernel
theorem d_bm_block_18 : decode b_bm_block 18 = .ok (.iload_n 1, 1) := by decide +kernel
theorem d_bm_block_19 : decode b_bm_block 19 = .ok (.invokevirtual 173, 3) := by decide +kernel
theorem d_bm_block_22 : decode b_bm_block 22 = .ok (.ireturn, 1) := by decide +kernel
theorem d_bm_block_23 : decode b_bm_block 23 = .ok (.iload_n 2, 1) := by decide +kernel
theorem d_bm_block_24 : decode b_bm_block 24 = .ok (.iconst 5, 1) := by decide +kernel
theorem d_bm_block_25 : decode b_bm_block 25 = .ok (.if_icmp .ne 13, 3) := by decide +kernel
theorem d_bm_block_28 : decode b_bm_block 28 = .ok (.aload_n 0, 1) := by decide +kernel
theorem d_bm_block_29 : decode b_bm_block 29 = .ok (.getfield 19, 3) := by decide +kernel
theorem d_bm_block_32 : decode b_bm_block 32 = .ok (.getfield 176, 3) := by decide +kernel
theorem d_bm_block_35 : decode b_bm_block 35 = .ok (.iload_n 1, 1) := by decide +kernel
theorem d_bm_block_36 : decode b_bm_block 36 = .ok (.iaload, 1) := by decide +kernel
theorem d_bm_block_37 : decode b_bm_block 37 = .ok (.ireturn, 1) := by decide +kernel
theorem d_bm_block_38 : decode b_bm_block 38 = .ok (.aload_n 0, 1) := by decide +kernel
theorem d_bm_block_39 : decode b_bm_block 39 = .ok (.getfield 38, 3) := by decide +kernel
theorem d_bm_block_42 : decode b_bm_block 42 = .ok (.iload_n 1, 1) := by decide +kernel
theorem d_bm_block_43 : decode b_bm_block 43 = .ok (.invokevirtual 150, 3) := by decide +kernel
theorem d_bm_block_46 : decode b_bm_block 46 = .ok (.ifCond .ne 5, 3) := by decide +kernel
theorem d_bm_block_49 : decode b_bm_block 49 = .ok (.iconst (-1), 1) := by decide +kernel
theorem d_bm_block_50 : decode b_bm_block 50 = .ok (.ireturn, 1) := by decide +kernel
theorem d_bm_block_51 : decode b_bm_block 51 = .ok (.iload_n 2, 1) := by decide +kernel
theorem d_bm_block_52 : decode b_bm_block 52 = .ok (.tableswitch 73 1 4 #[32, 42, 52, 61], 32) := by decide +kernel
theorem d_bm_block_84 : decode b_bm_block 84 = .ok (.aload_n 0, 1) := by decide +kernel
theorem d_bm_block_85 : decode b_bm_block 85 = .ok (.getfield 38, 3) := by decide +kernel
theorem d_bm_block_88 : decode b_bm_block 88 = .ok (.getfield 180, 3) := by decide +kernel
theorem d_bm_block_91 : decode b_bm_block 91 = .ok (.iload_n 1, 1) := by decide +kernel
theorem d_bm_block_92 : decode b_bm_block 92 = .ok (.iaload, 1) := by decide +kernel
theorem d_bm_block_93 : decode b_bm_block 93 = .ok (.ireturn, 1) := by decide +kernel
theorem d_bm_block_94 : decode b_bm_block 94 = .ok (.aload_n 0, 1) := by decide +kernel
theorem d_bm_block_95 : decode b_bm_block 95 = .ok (.getfield 38, 3) := by decide +kernel
theorem d_bm_block_98 : decode b_bm_block 98 = .ok (.getfield 183, 3) := by decide +kernel
theorem d_bm_block_101 : decode b_bm_block 101 = .ok (.iload_n 1, 1) := by decide +kernel
theorem d_bm_block_102 : decode b_bm_block 102 = .ok (.iaload, 1) := by decide +kernel
theorem d_bm_block_103 : decode b_bm_block 103 = .ok (.ireturn, 1) := by decide +kernel
theorem d_bm_block_104 : decode b_bm_block 104 = .ok (.aload_n 0, 1) := by decide +kernel
theorem d_bm_block_105 : decode b_bm_block 105 = .ok (.getfield 38, 3) := by decide +kernel
theorem d_bm_block_108 : decode b_bm_block 108 = .ok (.iload_n 1, 1) := by decide +kernel
theorem d_bm_block_109 : decode b_bm_block 109 = .ok (.invokevirtual 186, 3) := by decide +kernel
theorem d_bm_block_112 : decode b_bm_block 112 = .ok (.ireturn, 1) := by decide +kernel
theorem d_bm_block_113 : decode b_bm_block 113 = .ok (.aload_n 0, 1) := by decide +kernel
theorem d_bm_block_114 : decode b_bm_block 114 = .ok (.getfield 38, 3) := by decide +kernel
theorem d_bm_block_117 : decode b_bm_block 117 = .ok (.iload_n 1, 1) := by decide +kernel
theorem d_bm_block_118 : decode b_bm_block 118 = .ok (.invokevirtual 189, 3) := by decide +kernel
theorem d_bm_block_121 : decode b_bm_block 121 = .ok (.invokestatic 192, 3) := by decide +kernel
theorem d_bm_block_124 : decode b_bm_block 124 = .ok (.ireturn, 1) := by decide +kernel
theorem d_bm_block_125 : decode b_bm_block 125 = .ok (.iconst (-1), 1) := by decide +kernel
theorem d_bm_block_126 : decode b_bm_block 126 = .ok (.ireturn, 1) := by decide +kernel
theorem d_bm_order_0 : decode b_bm_order 0 = .ok (.iload_n 1, 1) := by decide +kernel
theorem d_bm_order_1 : decode b_bm_order 1 = .ok (.ifCond .lt 26, 3) := by decide +kernel
theorem d_bm_order_4 : decode b_bm_order 4 = .ok (.iload_n 1, 1) := by decide +kernel
theorem d_bm_order_5 : decode b_bm_order 5 = .ok (.aload_n 0, 1) := by decide +kernel
theorem d_bm_order_6 : decode b_bm_order 6 = .ok (.getfield 38, 3) := by decide +kernel
theorem d_bm_order_9 : decode b_bm_order 9 = .ok (.invokevirtual 197, 3) := by decide +kernel
theorem d_bm_order_12 : decode b_bm_order 12 = .ok (.if_icmp .ge 15, 3) := by decide +kernel
theorem d_bm_order_15 : decode b_bm_order 15 = .ok (.aload_n 0, 1) := by decide +kernel
theorem d_bm_order_16 : decode b_bm_order 16 = .ok (.getfield 38, 3) := by decide +kernel
theorem d_bm_order_19 : decode b_bm_order 19 = .ok (.getfield 199, 3) := by decide +kernel
theorem d_bm_order_22 : decode b_bm_order 22 = .ok (.iload_n 1, 1) := by decide +kernel
theorem d_bm_order_23 : decode b_bm_order 23 = .ok (.iaload, 1) := by decide +kernel
theorem d_bm_order_24 : decode b_bm_order 24 = .ok (.goto 4, 3) := by decide +kernel
theorem d_bm_order_27 : decode b_bm_order 27 = .ok (.iconst (-1), 1) := by decide +kernel
theorem d_bm_order_28 : decode b_bm_order 28 = .ok (.ireturn, 1) := by decide +kernel
theorem d_bm_unspent_0 : decode b_bm_unspent 0 = .ok (.iload_n 1, 1) := by decide +kernel
theorem d_bm_unspent_1 : decode b_bm_unspent 1 = .ok (.iload_n 2, 1) := by decide +kernel
theorem d_bm_unspent_2 : decode b_bm_unspent 2 = .ok (.invokestatic 72, 3) := by decide +kernel
theorem d_bm_unspent_5 : decode b_bm_unspent 5 = .ok (.istore_n 3, 1) := by decide +kernel
theorem d_bm_unspent_6 : decode b_bm_unspent 6 = .ok (.iload_n 3, 1) := by decide +kernel
theorem d_bm_unspent_7 : decode b_bm_unspent 7 = .ok (.iconst (-1), 1) := by decide +kernel
theorem d_bm_unspent_8 : decode b_bm_unspent 8 = .ok (.if_icmp .ne 7, 3) := by decide +kernel
theorem d_bm_unspent_11 : decode b_bm_unspent 11 = .ok (.iconst (-1), 1) := by decide +kernel
theorem d_bm_unspent_12 : decode b_bm_unspent 12 = .ok (.goto 12, 3) := by decide +kernel
theorem d_bm_unspent_15 : decode b_bm_unspent 15 = .ok (.aload_n 0, 1) := by decide +kernel
theorem d_bm_unspent_16 : decode b_bm_unspent 16 = .ok (.getfield 56, 3) := by decide +kernel
theorem d_bm_unspent_19 : decode b_bm_unspent 19 = .ok (.getfield 202, 3) := by decide +kernel
theorem d_bm_unspent_22 : decode b_bm_unspent 22 = .ok (.iload_n 3, 1) := by decide +kernel
theorem d_bm_unspent_23 : decode b_bm_unspent 23 = .ok (.iaload, 1) := by decide +kernel
theorem d_bm_unspent_24 : decode b_bm_unspent 24 = .ok (.ireturn, 1) := by decide +kernel
theorem d_bm_pool_0 : decode b_bm_pool 0 = .ok (.aload_n 0, 1) := by decide +kernel
theorem d_bm_pool_1 : decode b_bm_pool 1 = .ok (.getfield 60, 3) := by decide +kernel
theorem d_bm_pool_4 : decode b_bm_pool 4 = .ok (.iload_n 1, 1) := by decide +kernel
theorem d_bm_pool_5 : decode b_bm_pool 5 = .ok (.invokevirtual 144, 3) := by decide +kernel
theorem d_bm_pool_8 : decode b_bm_pool 8 = .ok (.ireturn, 1) := by decide +kernel
theorem d_bm_missingParents_0 : decode b_bm_missingParents 0 = .ok (.lconst 0, 1) := by decide +kernel
theorem d_bm_missingParents_1 : decode b_bm_missingParents 1 = .ok (.lstore_n 1, 1) := by decide +kernel
theorem d_bm_missingParents_2 : decode b_bm_missingParents 2 = .ok (.aload_n 0, 1) := by decide +kernel
theorem d_bm_missingParents_3 : decode b_bm_missingParents 3 = .ok (.getfield 38, 3) := by decide +kernel
theorem d_bm_missingParents_6 : decode b_bm_missingParents 6 = .ok (.getfield 245, 3) := by decide +kernel
theorem d_bm_missingParents_9 : decode b_bm_missingParents 9 = .ok (.lstore_n 3, 1) := by decide +kernel
theorem d_bm_missingParents_10 : decode b_bm_missingParents 10 = .ok (.iconst 0, 1) := by decide +kernel
theorem d_bm_missingParents_11 : decode b_bm_missingParents 11 = .ok (.istore 5, 2) := by decide +kernel
theorem d_bm_missingParents_13 : decode b_bm_missingParents 13 = .ok (.iload 5, 2) := by decide +kernel
theorem d_bm_missingParents_15 : decode b_bm_missingParents 15 = .ok (.aload_n 0, 1) := by decide +kernel
theorem d_bm_missingParents_16 : decode b_bm_missingParents 16 = .ok (.getfield 47, 3) := by decide +kernel
theorem d_bm_missingParents_19 : decode b_bm_missingParents 19 = .ok (.getfield 112, 3) := by decide +kernel
theorem d_bm_missingParents_22 : decode b_bm_missingParents 22 = .ok (.if_icmp .ge 43, 3) := by decide +kernel
theorem d_bm_missingParents_25 : decode b_bm_missingParents 25 = .ok (.lload_n 1, 1) := by decide +kernel
theorem d_bm_missingParents_26 : decode b_bm_missingParents 26 = .ok (.aload_n 0, 1) := by decide +kernel
theorem d_bm_missingParents_27 : decode b_bm_missingParents 27 = .ok (.getfield 19, 3) := by decide +kernel
theorem d_bm_missingParents_30 : decode b_bm_missingParents 30 = .ok (.aload_n 0, 1) := by decide +kernel
theorem d_bm_missingParents_31 : decode b_bm_missingParents 31 = .ok (.getfield 47, 3) := by decide +kernel
theorem d_bm_missingParents_34 : decode b_bm_missingParents 34 = .ok (.iload 5, 2) := by decide +kernel
theorem d_bm_missingParents_36 : decode b_bm_missingParents 36 = .ok (.invokevirtual 144, 3) := by decide +kernel
theorem d_bm_missingParents_39 : decode b_bm_missingParents 39 = .ok (.invokevirtual 248, 3) := by decide +kernel
theorem d_bm_missingParents_42 : decode b_bm_missingParents 42 = .ok (.lor, 1) := by decide +kernel
theorem d_bm_missingParents_43 : decode b_bm_missingParents 43 = .ok (.lstore_n 1, 1) := by decide +kernel
theorem d_bm_missingParents_44 : decode b_bm_missingParents 44 = .ok (.lload_n 3, 1) := by decide +kernel
theorem d_bm_missingParents_45 : decode b_bm_missingParents 45 = .ok (.aload_n 0, 1) := by decide +kernel
theorem d_bm_missingParents_46 : decode b_bm_missingParents 46 = .ok (.getfield 47, 3) := by decide +kernel
theorem d_bm_missingParents_49 : decode b_bm_missingParents 49 = .ok (.iload 5, 2) := by decide +kernel
theorem d_bm_missingParents_51 : decode b_bm_missingParents 51 = .ok (.invokevirtual 144, 3) := by decide +kernel
theorem d_bm_missingParents_54 : decode b_bm_missingParents 54 = .ok (.invokestatic 138, 3) := by decide +kernel
theorem d_bm_missingParents_57 : decode b_bm_missingParents 57 = .ok (.lor, 1) := by decide +kernel
theorem d_bm_missingParents_58 : decode b_bm_missingParents 58 = .ok (.lstore_n 3, 1) := by decide +kernel
theorem d_bm_missingParents_59 : decode b_bm_missingParents 59 = .ok (.iinc 5 1, 3) := by decide +kernel
theorem d_bm_missingParents_62 : decode b_bm_missingParents 62 = .ok (.goto (-49), 3) := by decide +kernel
theorem d_bm_missingParents_65 : decode b_bm_missingParents 65 = .ok (.lload_n 1, 1) := by decide +kernel
theorem d_bm_missingParents_66 : decode b_bm_missingParents 66 = .ok (.lload_n 3, 1) := by decide +kernel
theorem d_bm_missingParents_67 : decode b_bm_missingParents 67 = .ok (.ldc2_w 142, 3) := by decide +kernel
theorem d_bm_missingParents_70 : decode b_bm_missingParents 70 = .ok (.lxor, 1) := by decide +kernel
theorem d_bm_missingParents_71 : decode b_bm_missingParents 71 = .ok (.land, 1) := by decide +kernel
theorem d_bm_missingParents_72 : decode b_bm_missingParents 72 = .ok (.lreturn, 1) := by decide +kernel
theorem d_bm_wanted_0 : decode b_bm_wanted 0 = .ok (.aload_n 0, 1) := by decide +kernel
theorem d_bm_wanted_1 : decode b_bm_wanted 1 = .ok (.invokevirtual 205, 3) := by decide +kernel
theorem d_bm_wanted_4 : decode b_bm_wanted 4 = .ok (.lstore_n 2, 1) := by decide +kernel
theorem d_bm_wanted_5 : decode b_bm_wanted 5 = .ok (.iconst 0, 1) := by decide +kernel
theorem d_bm_wanted_6 : decode b_bm_wanted 6 = .ok (.istore 4, 2) := by decide +kernel
theorem d_bm_wanted_8 : decode b_bm_wanted 8 = .ok (.iconst 0, 1) := by decide +kernel
theorem d_bm_wanted_9 : decode b_bm_wanted 9 = .ok (.istore 5, 2) := by decide +kernel
theorem d_bm_wanted_11 : decode b_bm_wanted 11 = .ok (.iload 5, 2) := by decide +kernel
theorem d_bm_wanted_13 : decode b_bm_wanted 13 = .ok (.bipush 60, 2) := by decide +kernel
theorem d_bm_wanted_15 : decode b_bm_wanted 15 = .ok (.if_icmp .ge 33, 3) := by decide +kernel
theorem d_bm_wanted_18 : decode b_bm_wanted 18 = .ok (.lload_n 2, 1) := by decide +kernel
theorem d_bm_wanted_19 : decode b_bm_wanted 19 = .ok (.iload 5, 2) := by decide +kernel
theorem d_bm_wanted_21 : decode b_bm_wanted 21 = .ok (.invokestatic 209, 3) := by decide +kernel
theorem d_bm_wanted_24 : decode b_bm_wanted 24 = .ok (.ifCond .ne 6, 3) := by decide +kernel
theorem d_bm_wanted_27 : decode b_bm_wanted 27 = .ok (.goto 15, 3) := by decide +kernel
theorem d_bm_wanted_30 : decode b_bm_wanted 30 = .ok (.iload 4, 2) := by decide +kernel
theorem d_bm_wanted_32 : decode b_bm_wanted 32 = .ok (.iload_n 1, 1) := by decide +kernel
theorem d_bm_wanted_33 : decode b_bm_wanted 33 = .ok (.if_icmp .ne 6, 3) := by decide +kernel
theorem d_bm_wanted_36 : decode b_bm_wanted 36 = .ok (.iload 5, 2) := by decide +kernel
theorem d_bm_wanted_38 : decode b_bm_wanted 38 = .ok (.ireturn, 1) := by decide +kernel
theorem d_bm_wanted_39 : decode b_bm_wanted 39 = .ok (.iinc 4 1, 3) := by decide +kernel
theorem d_bm_wanted_42 : decode b_bm_wanted 42 = .ok (.iinc 5 1, 3) := by decide +kernel
theorem d_bm_wanted_45 : decode b_bm_wanted 45 = .ok (.goto (-34), 3) := by decide +kernel
theorem d_bm_wanted_48 : decode b_bm_wanted 48 = .ok (.iconst (-1), 1) := by decide +kernel
theorem d_bm_wanted_49 : decode b_bm_wanted 49 = .ok (.ireturn, 1) := by decide +kernel
theorem d_bm_parentOf_0 : decode b_bm_parentOf 0 = .ok (.aload_n 0, 1) := by decide +kernel
theorem d_bm_parentOf_1 : decode b_bm_parentOf 1 = .ok (.getfield 19, 3) := by decide +kernel
theorem d_bm_parentOf_4 : decode b_bm_parentOf 4 = .ok (.iload_n 1, 1) := by decide +kernel
theorem d_bm_parentOf_5 : decode b_bm_parentOf 5 = .ok (.invokevirtual 99, 3) := by decide +kernel
theorem d_bm_parentOf_8 : decode b_bm_parentOf 8 = .ok (.ifCond .eq 20, 3) := by decide +kernel
theorem d_bm_parentOf_11 : decode b_bm_parentOf 11 = .ok (.iload_n 2, 1) := by decide +kernel
theorem d_bm_parentOf_12 : decode b_bm_parentOf 12 = .ok (.ifCond .lt 16, 3) := by decide +kernel
theorem d_bm_parentOf_15 : decode b_bm_parentOf 15 = .ok (.iload_n 2, 1) := by decide +kernel
theorem d_bm_parentOf_16 : decode b_bm_parentOf 16 = .ok (.aload_n 0, 1) := by decide +kernel
theorem d_bm_parentOf_17 : decode b_bm_parentOf 17 = .ok (.getfield 19, 3) := by decide +kernel
theorem d_bm_parentOf_20 : decode b_bm_parentOf 20 = .ok (.getfield 213, 3) := by decide +kernel
theorem d_bm_parentOf_23 : decode b_bm_parentOf 23 = .ok (.iload_n 1, 1) := by decide +kernel
theorem d_bm_parentOf_24 : decode b_bm_parentOf 24 = .ok (.iaload, 1) := by decide +kernel
theorem d_bm_parentOf_25 : decode b_bm_parentOf 25 = .ok (.if_icmp .lt 5, 3) := by decide +kernel
theorem d_bm_parentOf_28 : decode b_bm_parentOf 28 = .ok (.iconst (-1), 1) := by decide +kernel
theorem d_bm_parentOf_29 : decode b_bm_parentOf 29 = .ok (.ireturn, 1) := by decide +kernel
theorem d_bm_parentOf_30 : decode b_bm_parentOf 30 = .ok (.aload_n 0, 1) := by decide +kernel
theorem d_bm_parentOf_31 : decode b_bm_parentOf 31 = .ok (.getfield 19, 3) := by decide +kernel
theorem d_bm_parentOf_34 : decode b_bm_parentOf 34 = .ok (.iload_n 1, 1) := by decide +kernel
theorem d_bm_parentOf_35 : decode b_bm_parentOf 35 = .ok (.iload_n 2, 1) := by decide +kernel
theorem d_bm_parentOf_36 : decode b_bm_parentOf 36 = .ok (.invokevirtual 216, 3) := by decide +kernel
theorem d_bm_parentOf_39 : decode b_bm_parentOf 39 = .ok (.ireturn, 1) := by decide +kernel
theorem d_tr_lastId_0 : decode b_tr_lastId 0 = .ok (.aload_n 0, 1) := by decide +kernel
theorem d_tr_lastId_1 : decode b_tr_lastId 1 = .ok (.getfield 42, 3) := by decide +kernel
theorem d_tr_lastId_4 : decode b_tr_lastId 4 = .ok (.ifCond .ne 7, 3) := by decide +kernel
theorem d_tr_lastId_7 : decode b_tr_lastId 7 = .ok (.iconst 0, 1) := by decide +kernel
theorem d_tr_lastId_8 : decode b_tr_lastId 8 = .ok (.goto 14, 3) := by decide +kernel
theorem d_tr_lastId_11 : decode b_tr_lastId 11 = .ok (.aload_n 0, 1) := by decide +kernel
theorem d_tr_lastId_12 : decode b_tr_lastId 12 = .ok (.getfield 11, 3) := by decide +kernel
theorem d_tr_lastId_15 : decode b_tr_lastId 15 = .ok (.aload_n 0, 1) := by decide +kernel
theorem d_tr_lastId_16 : decode b_tr_lastId 16 = .ok (.getfield 42, 3) := by decide +kernel
theorem d_tr_lastId_19 : decode b_tr_lastId 19 = .ok (.iconst 1, 1) := by decide +kernel
theorem d_tr_lastId_20 : decode b_tr_lastId 20 = .ok (.isub, 1) := by decide +kernel
theorem d_tr_lastId_21 : decode b_tr_lastId 21 = .ok (.iaload, 1) := by decide +kernel
theorem d_tr_lastId_22 : decode b_tr_lastId 22 = .ok (.ireturn, 1) := by decide +kernel
theorem d_bm_count_0 : decode b_bm_count 0 = .ok (.iload_n 1, 1) := by decide +kernel
theorem d_bm_count_1 : decode b_bm_count 1 = .ok (.tableswitch 147 0 9 #[55, 63, 71, 79, 90, 98, 106, 117, 128, 139], 55) := by decide +kernel
theorem d_bm_count_56 : decode b_bm_count 56 = .ok (.aload_n 0, 1) := by decide +kernel
theorem d_bm_count_57 : decode b_bm_count 57 = .ok (.getfield 12, 3) := by decide +kernel
theorem d_bm_count_60 : decode b_bm_count 60 = .ok (.getfield 219, 3) := by decide +kernel
theorem d_bm_count_63 : decode b_bm_count 63 = .ok (.ireturn, 1) := by decide +kernel
theorem d_bm_count_64 : decode b_bm_count 64 = .ok (.aload_n 0, 1) := by decide +kernel
theorem d_bm_count_65 : decode b_bm_count 65 = .ok (.getfield 19, 3) := by decide +kernel
theorem d_bm_count_68 : decode b_bm_count 68 = .ok (.getfield 222, 3) := by decide +kernel
theorem d_bm_count_71 : decode b_bm_count 71 = .ok (.ireturn, 1) := by decide +kernel
theorem d_bm_count_72 : decode b_bm_count 72 = .ok (.aload_n 0, 1) := by decide +kernel
theorem d_bm_count_73 : decode b_bm_count 73 = .ok (.getfield 38, 3) := by decide +kernel
theorem d_bm_count_76 : decode b_bm_count 76 = .ok (.invokevirtual 197, 3) := by decide +kernel
theorem d_bm_count_79 : decode b_bm_count 79 = .ok (.ireturn, 1) := by decide +kernel
theorem d_bm_count_80 : decode b_bm_count 80 = .ok (.aload_n 0, 1) := by decide +kernel
theorem d_bm_count_81 : decode b_bm_count 81 = .ok (.getfield 38, 3) := by decide +kernel
theorem d_bm_count_84 : decode b_bm_count 84 = .ok (.getfield 130, 3) := by decide +kernel
theorem d_bm_count_87 : decode b_bm_count 87 = .ok (.invokestatic 192, 3) := by decide +kernel
theorem d_bm_count_90 : decode b_bm_count 90 = .ok (.ireturn, 1) := by decide +kernel
theorem d_bm_count_91 : decode b_bm_count 91 = .ok (.aload_n 0, 1) := by decide +kernel
theorem d_bm_count_92 : decode b_bm_count 92 = .ok (.getfield 47, 3) := by decide +kernel
theorem d_bm_count_95 : decode b_bm_count 95 = .ok (.getfield 112, 3) := by decide +kernel
theorem d_bm_count_98 : decode b_bm_count 98 = .ok (.ireturn, 1) := by decide +kernel
theorem d_bm_count_99 : decode b_bm_count 99 = .ok (.aload_n 0, 1) := by decide +kernel
theorem d_bm_count_100 : decode b_bm_count 100 = .ok (.getfield 60, 3) := by decide +kernel
theorem d_bm_count_103 : decode b_bm_count 103 = .ok (.getfield 112, 3) := by decide +kernel
theorem d_bm_count_106 : decode b_bm_count 106 = .ok (.ireturn, 1) := by decide +kernel
theorem d_bm_count_107 : decode b_bm_count 107 = .ok (.aload_n 0, 1) := by decide +kernel
theorem d_bm_count_108 : decode b_bm_count 108 = .ok (.getfield 56, 3) := by decide +kernel
theorem d_bm_count_111 : decode b_bm_count 111 = .ok (.getfield 223, 3) := by decide +kernel
theorem d_bm_count_114 : decode b_bm_count 114 = .ok (.invokestatic 192, 3) := by decide +kernel
theorem d_bm_count_117 : decode b_bm_count 117 = .ok (.ireturn, 1) := by decide +kernel
theorem d_bm_count_118 : decode b_bm_count 118 = .ok (.aload_n 0, 1) := by decide +kernel
theorem d_bm_count_119 : decode b_bm_count 119 = .ok (.getfield 38, 3) := by decide +kernel
theorem d_bm_count_122 : decode b_bm_count 122 = .ok (.getfield 180, 3) := by decide +kernel
theorem d_bm_count_125 : decode b_bm_count 125 = .ok (.bipush 60, 2) := by decide +kernel
theorem d_bm_count_127 : decode b_bm_count 127 = .ok (.iaload, 1) := by decide +kernel
theorem d_bm_count_128 : decode b_bm_count 128 = .ok (.ireturn, 1) := by decide +kernel
theorem d_bm_count_129 : decode b_bm_count 129 = .ok (.aload_n 0, 1) := by decide +kernel
theorem d_bm_count_130 : decode b_bm_count 130 = .ok (.getfield 38, 3) := by decide +kernel
theorem d_bm_count_133 : decode b_bm_count 133 = .ok (.getfield 183, 3) := by decide +kernel
theorem d_bm_count_136 : decode b_bm_count 136 = .ok (.bipush 60, 2) := by decide +kernel
theorem d_bm_count_138 : decode b_bm_count 138 = .ok (.iaload, 1) := by decide +kernel
theorem d_bm_count_139 : decode b_bm_count 139 = .ok (.ireturn, 1) := by decide +kernel
theorem d_bm_count_140 : decode b_bm_count 140 = .ok (.aload_n 0, 1) := by decide +kernel
theorem d_bm_count_141 : decode b_bm_count 141 = .ok (.getfield 12, 3) := by decide +kernel
theorem d_bm_count_144 : decode b_bm_count 144 = .ok (.invokevirtual 226, 3) := by decide +kernel
theorem d_bm_count_147 : decode b_bm_count 147 = .ok (.ireturn, 1) := by decide +kernel
theorem d_bm_count_148 : decode b_bm_count 148 = .ok (.iconst (-1), 1) := by decide +kernel
theorem d_bm_count_149 : decode b_bm_count 149 = .ok (.ireturn, 1) := by decide +kernel
theorem d_le_sum_0 : decode b_le_sum 0 = .ok (.iconst 0, 1) := by decide +kernel
theorem d_le_sum_1 : decode b_le_sum 1 = .ok (.istore_n 1, 1) := by decide +kernel
theorem d_le_sum_2 : decode b_le_sum 2 = .ok (.iconst 0, 1) := by decide +kernel
theorem d_le_sum_3 : decode b_le_sum 3 = .ok (.istore_n 2, 1) := by decide +kernel
theorem d_le_sum_4 : decode b_le_sum 4 = .ok (.iload_n 2, 1) := by decide +kernel
theorem d_le_sum_5 : decode b_le_sum 5 = .ok (.sipush 140, 3) := by decide +kernel
theorem d_le_sum_8 : decode b_le_sum 8 = .ok (.if_icmp .ge 22, 3) := by decide +kernel
theorem d_le_sum_11 : decode b_le_sum 11 = .ok (.iload_n 1, 1) := by decide +kernel
theorem d_le_sum_12 : decode b_le_sum 12 = .ok (.aload_n 0, 1) := by decide +kernel
theorem d_le_sum_13 : decode b_le_sum 13 = .ok (.getfield 9, 3) := by decide +kernel
theorem d_le_sum_16 : decode b_le_sum 16 = .ok (.iload_n 2, 1) := by decide +kernel
theorem d_le_sum_17 : decode b_le_sum 17 = .ok (.iaload, 1) := by decide +kernel
theorem d_le_sum_18 : decode b_le_sum 18 = .ok (.iconst 0, 1) := by decide +kernel
theorem d_le_sum_19 : decode b_le_sum 19 = .ok (.invokestatic 61, 3) := by decide +kernel
theorem d_le_sum_22 : decode b_le_sum 22 = .ok (.iadd, 1) := by decide +kernel
theorem d_le_sum_23 : decode b_le_sum 23 = .ok (.istore_n 1, 1) := by decide +kernel
theorem d_le_sum_24 : decode b_le_sum 24 = .ok (.iinc 2 1, 3) := by decide +kernel
theorem d_le_sum_27 : decode b_le_sum 27 = .ok (.goto (-23), 3) := by decide +kernel
theorem d_le_sum_30 : decode b_le_sum 30 = .ok (.iload_n 1, 1) := by decide +kernel
theorem d_le_sum_31 : decode b_le_sum 31 = .ok (.ireturn, 1) := by decide +kernel
theorem d_bm_total_0 : decode b_bm_total 0 = .ok (.aload_n 0, 1) := by decide +kernel
theorem d_bm_total_1 : decode b_bm_total 1 = .ok (.getfield 56, 3) := by decide +kernel
theorem d_bm_total_4 : decode b_bm_total 4 = .ok (.invokevirtual 229, 3) := by decide +kernel
theorem d_bm_total_7 : decode b_bm_total 7 = .ok (.ireturn, 1) := by decide +kernel
theorem d_mm_mix_0 : decode b_mm_mix 0 = .ok (.iload_n 0, 1) := by decide +kernel
theorem d_mm_mix_1 : decode b_mm_mix 1 = .ok (.ldc 109, 2) := by decide +kernel
theorem d_mm_mix_3 : decode b_mm_mix 3 = .ok (.imul, 1) := by decide +kernel
theorem d_mm_mix_4 : decode b_mm_mix 4 = .ok (.iload_n 1, 1) := by decide +kernel
theorem d_mm_mix_5 : decode b_mm_mix 5 = .ok (.iadd, 1) := by decide +kernel
theorem d_mm_mix_6 : decode b_mm_mix 6 = .ok (.istore_n 2, 1) := by decide +kernel
theorem d_mm_mix_7 : decode b_mm_mix 7 = .ok (.iload_n 2, 1) := by decide +kernel
theorem d_mm_mix_8 : decode b_mm_mix 8 = .ok (.iload_n 2, 1) := by decide +kernel
theorem d_mm_mix_9 : decode b_mm_mix 9 = .ok (.bipush 13, 2) := by decide +kernel
theorem d_mm_mix_11 : decode b_mm_mix 11 = .ok (.iushr, 1) := by decide +kernel
theorem d_mm_mix_12 : decode b_mm_mix 12 = .ok (.ixor, 1) := by decide +kernel
theorem d_mm_mix_13 : decode b_mm_mix 13 = .ok (.ireturn, 1) := by decide +kernel
theorem d_mm_in_0 : decode b_mm_in 0 = .ok (.lload_n 0, 1) := by decide +kernel
theorem d_mm_in_1 : decode b_mm_in 1 = .ok (.iload_n 2, 1) := by decide +kernel
theorem d_mm_in_2 : decode b_mm_in 2 = .ok (.lshr, 1) := by decide +kernel
theorem d_mm_in_3 : decode b_mm_in 3 = .ok (.lconst 1, 1) := by decide +kernel
theorem d_mm_in_4 : decode b_mm_in 4 = .ok (.land, 1) := by decide +kernel
theorem d_mm_in_5 : decode b_mm_in 5 = .ok (.lconst 1, 1) := by decide +kernel
theorem d_mm_in_6 : decode b_mm_in 6 = .ok (.lcmp, 1) := by decide +kernel
