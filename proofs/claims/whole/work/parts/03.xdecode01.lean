theorem d_tr_init_0 : decode b_tr_init 0 = .ok (.aload_n 0, 1) := by decide +kernel
theorem d_tr_init_1 : decode b_tr_init 1 = .ok (.invokespecial 3, 3) := by decide +kernel
theorem d_tr_init_4 : decode b_tr_init 4 = .ok (.aload_n 0, 1) := by decide +kernel
theorem d_tr_init_5 : decode b_tr_init 5 = .ok (.bipush 41, 2) := by decide +kernel
theorem d_tr_init_7 : decode b_tr_init 7 = .ok (.newarray .int, 2) := by decide +kernel
theorem d_tr_init_9 : decode b_tr_init 9 = .ok (.putfield 11, 3) := by decide +kernel
theorem d_tr_init_12 : decode b_tr_init 12 = .ok (.aload_n 0, 1) := by decide +kernel
theorem d_tr_init_13 : decode b_tr_init 13 = .ok (.bipush 41, 2) := by decide +kernel
theorem d_tr_init_15 : decode b_tr_init 15 = .ok (.newarray .int, 2) := by decide +kernel
theorem d_tr_init_17 : decode b_tr_init 17 = .ok (.putfield 15, 3) := by decide +kernel
theorem d_tr_init_20 : decode b_tr_init 20 = .ok (.aload_n 0, 1) := by decide +kernel
theorem d_tr_init_21 : decode b_tr_init 21 = .ok (.bipush 82, 2) := by decide +kernel
theorem d_tr_init_23 : decode b_tr_init 23 = .ok (.newarray .int, 2) := by decide +kernel
theorem d_tr_init_25 : decode b_tr_init 25 = .ok (.putfield 18, 3) := by decide +kernel
theorem d_tr_init_28 : decode b_tr_init 28 = .ok (.aload_n 0, 1) := by decide +kernel
theorem d_tr_init_29 : decode b_tr_init 29 = .ok (.bipush 82, 2) := by decide +kernel
theorem d_tr_init_31 : decode b_tr_init 31 = .ok (.newarray .int, 2) := by decide +kernel
theorem d_tr_init_33 : decode b_tr_init 33 = .ok (.putfield 21, 3) := by decide +kernel
theorem d_tr_init_36 : decode b_tr_init 36 = .ok (.aload_n 0, 1) := by decide +kernel
theorem d_tr_init_37 : decode b_tr_init 37 = .ok (.bipush 82, 2) := by decide +kernel
theorem d_tr_init_39 : decode b_tr_init 39 = .ok (.newarray .int, 2) := by decide +kernel
theorem d_tr_init_41 : decode b_tr_init 41 = .ok (.putfield 24, 3) := by decide +kernel
theorem d_tr_init_44 : decode b_tr_init 44 = .ok (.aload_n 0, 1) := by decide +kernel
theorem d_tr_init_45 : decode b_tr_init 45 = .ok (.bipush 82, 2) := by decide +kernel
theorem d_tr_init_47 : decode b_tr_init 47 = .ok (.newarray .int, 2) := by decide +kernel
theorem d_tr_init_49 : decode b_tr_init 49 = .ok (.putfield 27, 3) := by decide +kernel
theorem d_tr_init_52 : decode b_tr_init 52 = .ok (.aload_n 0, 1) := by decide +kernel
theorem d_tr_init_53 : decode b_tr_init 53 = .ok (.bipush 82, 2) := by decide +kernel
theorem d_tr_init_55 : decode b_tr_init 55 = .ok (.newarray .int, 2) := by decide +kernel
theorem d_tr_init_57 : decode b_tr_init 57 = .ok (.putfield 30, 3) := by decide +kernel
theorem d_tr_init_60 : decode b_tr_init 60 = .ok (.aload_n 0, 1) := by decide +kernel
theorem d_tr_init_61 : decode b_tr_init 61 = .ok (.bipush 41, 2) := by decide +kernel
theorem d_tr_init_63 : decode b_tr_init 63 = .ok (.newarray .int, 2) := by decide +kernel
theorem d_tr_init_65 : decode b_tr_init 65 = .ok (.putfield 33, 3) := by decide +kernel
theorem d_tr_init_68 : decode b_tr_init 68 = .ok (.aload_n 0, 1) := by decide +kernel
theorem d_tr_init_69 : decode b_tr_init 69 = .ok (.bipush 82, 2) := by decide +kernel
theorem d_tr_init_71 : decode b_tr_init 71 = .ok (.newarray .int, 2) := by decide +kernel
theorem d_tr_init_73 : decode b_tr_init 73 = .ok (.putfield 36, 3) := by decide +kernel
theorem d_tr_init_76 : decode b_tr_init 76 = .ok (.aload_n 0, 1) := by decide +kernel
theorem d_tr_init_77 : decode b_tr_init 77 = .ok (.bipush 82, 2) := by decide +kernel
theorem d_tr_init_79 : decode b_tr_init 79 = .ok (.newarray .int, 2) := by decide +kernel
theorem d_tr_init_81 : decode b_tr_init 81 = .ok (.putfield 39, 3) := by decide +kernel
theorem d_tr_init_84 : decode b_tr_init 84 = .ok (.return_, 1) := by decide +kernel
theorem d_bm_mix_0 : decode b_bm_mix 0 = .ok (.iload_n 0, 1) := by decide +kernel
theorem d_bm_mix_1 : decode b_bm_mix 1 = .ok (.ldc_w 262, 3) := by decide +kernel
theorem d_bm_mix_4 : decode b_bm_mix 4 = .ok (.imul, 1) := by decide +kernel
theorem d_bm_mix_5 : decode b_bm_mix 5 = .ok (.iload_n 1, 1) := by decide +kernel
theorem d_bm_mix_6 : decode b_bm_mix 6 = .ok (.iadd, 1) := by decide +kernel
theorem d_bm_mix_7 : decode b_bm_mix 7 = .ok (.istore_n 2, 1) := by decide +kernel
theorem d_bm_mix_8 : decode b_bm_mix 8 = .ok (.iload_n 2, 1) := by decide +kernel
theorem d_bm_mix_9 : decode b_bm_mix 9 = .ok (.iload_n 2, 1) := by decide +kernel
theorem d_bm_mix_10 : decode b_bm_mix 10 = .ok (.bipush 13, 2) := by decide +kernel
theorem d_bm_mix_12 : decode b_bm_mix 12 = .ok (.iushr, 1) := by decide +kernel
theorem d_bm_mix_13 : decode b_bm_mix 13 = .ok (.ixor, 1) := by decide +kernel
theorem d_bm_mix_14 : decode b_bm_mix 14 = .ok (.ireturn, 1) := by decide +kernel
theorem d_bl_init_0 : decode b_bl_init 0 = .ok (.aload_n 0, 1) := by decide +kernel
theorem d_bl_init_1 : decode b_bl_init 1 = .ok (.invokespecial 3, 3) := by decide +kernel
theorem d_bl_init_4 : decode b_bl_init 4 = .ok (.aload_n 0, 1) := by decide +kernel
theorem d_bl_init_5 : decode b_bl_init 5 = .ok (.bipush 60, 2) := by decide +kernel
theorem d_bl_init_7 : decode b_bl_init 7 = .ok (.newarray .int, 2) := by decide +kernel
theorem d_bl_init_9 : decode b_bl_init 9 = .ok (.putfield 9, 3) := by decide +kernel
theorem d_bl_init_12 : decode b_bl_init 12 = .ok (.aload_n 0, 1) := by decide +kernel
theorem d_bl_init_13 : decode b_bl_init 13 = .ok (.sipush 240, 3) := by decide +kernel
theorem d_bl_init_16 : decode b_bl_init 16 = .ok (.newarray .int, 2) := by decide +kernel
theorem d_bl_init_18 : decode b_bl_init 18 = .ok (.putfield 15, 3) := by decide +kernel
theorem d_bl_init_21 : decode b_bl_init 21 = .ok (.aload_n 0, 1) := by decide +kernel
theorem d_bl_init_22 : decode b_bl_init 22 = .ok (.bipush 60, 2) := by decide +kernel
theorem d_bl_init_24 : decode b_bl_init 24 = .ok (.newarray .int, 2) := by decide +kernel
theorem d_bl_init_26 : decode b_bl_init 26 = .ok (.putfield 18, 3) := by decide +kernel
theorem d_bl_init_29 : decode b_bl_init 29 = .ok (.aload_n 0, 1) := by decide +kernel
theorem d_bl_init_30 : decode b_bl_init 30 = .ok (.sipush 180, 3) := by decide +kernel
theorem d_bl_init_33 : decode b_bl_init 33 = .ok (.newarray .int, 2) := by decide +kernel
theorem d_bl_init_35 : decode b_bl_init 35 = .ok (.putfield 21, 3) := by decide +kernel
theorem d_bl_init_38 : decode b_bl_init 38 = .ok (.aload_n 0, 1) := by decide +kernel
theorem d_bl_init_39 : decode b_bl_init 39 = .ok (.bipush 60, 2) := by decide +kernel
theorem d_bl_init_41 : decode b_bl_init 41 = .ok (.newarray .int, 2) := by decide +kernel
theorem d_bl_init_43 : decode b_bl_init 43 = .ok (.putfield 24, 3) := by decide +kernel
theorem d_bl_init_46 : decode b_bl_init 46 = .ok (.aload_n 0, 1) := by decide +kernel
theorem d_bl_init_47 : decode b_bl_init 47 = .ok (.bipush 60, 2) := by decide +kernel
theorem d_bl_init_49 : decode b_bl_init 49 = .ok (.newarray .int, 2) := by decide +kernel
theorem d_bl_init_51 : decode b_bl_init 51 = .ok (.putfield 27, 3) := by decide +kernel
theorem d_bl_init_54 : decode b_bl_init 54 = .ok (.aload_n 0, 1) := by decide +kernel
theorem d_bl_init_55 : decode b_bl_init 55 = .ok (.getfield 27, 3) := by decide +kernel
theorem d_bl_init_58 : decode b_bl_init 58 = .ok (.iconst 0, 1) := by decide +kernel
theorem d_bl_init_59 : decode b_bl_init 59 = .ok (.bipush 13, 2) := by decide +kernel
theorem d_bl_init_61 : decode b_bl_init 61 = .ok (.iconst 0, 1) := by decide +kernel
theorem d_bl_init_62 : decode b_bl_init 62 = .ok (.invokestatic 30, 3) := by decide +kernel
theorem d_bl_init_65 : decode b_bl_init 65 = .ok (.iconst 0, 1) := by decide +kernel
theorem d_bl_init_66 : decode b_bl_init 66 = .ok (.invokestatic 30, 3) := by decide +kernel
theorem d_bl_init_69 : decode b_bl_init 69 = .ok (.ldc 34, 2) := by decide +kernel
theorem d_bl_init_71 : decode b_bl_init 71 = .ok (.iand, 1) := by decide +kernel
theorem d_bl_init_72 : decode b_bl_init 72 = .ok (.iastore, 1) := by decide +kernel
theorem d_bl_init_73 : decode b_bl_init 73 = .ok (.aload_n 0, 1) := by decide +kernel
theorem d_bl_init_74 : decode b_bl_init 74 = .ok (.iconst 1, 1) := by decide +kernel
theorem d_bl_init_75 : decode b_bl_init 75 = .ok (.putfield 35, 3) := by decide +kernel
theorem d_bl_init_78 : decode b_bl_init 78 = .ok (.return_, 1) := by decide +kernel
theorem d_nu_init_0 : decode b_nu_init 0 = .ok (.aload_n 0, 1) := by decide +kernel
theorem d_nu_init_1 : decode b_nu_init 1 = .ok (.invokespecial 3, 3) := by decide +kernel
theorem d_nu_init_4 : decode b_nu_init 4 = .ok (.aload_n 0, 1) := by decide +kernel
theorem d_nu_init_5 : decode b_nu_init 5 = .ok (.iload_n 1, 1) := by decide +kernel
theorem d_nu_init_6 : decode b_nu_init 6 = .ok (.newarray .int, 2) := by decide +kernel
theorem d_nu_init_8 : decode b_nu_init 8 = .ok (.putfield 9, 3) := by decide +kernel
theorem d_nu_init_11 : decode b_nu_init 11 = .ok (.return_, 1) := by decide +kernel
theorem d_bp_init_0 : decode b_bp_init 0 = .ok (.aload_n 0, 1) := by decide +kernel
theorem d_bp_init_1 : decode b_bp_init 1 = .ok (.invokespecial 3, 3) := by decide +kernel
theorem d_bp_init_4 : decode b_bp_init 4 = .ok (.aload_n 0, 1) := by decide +kernel
theorem d_bp_init_5 : decode b_bp_init 5 = .ok (.new 9, 3) := by decide +kernel
theorem d_bp_init_8 : decode b_bp_init 8 = .ok (.dup, 1) := by decide +kernel
theorem d_bp_init_9 : decode b_bp_init 9 = .ok (.iconst 4, 1) := by decide +kernel
theorem d_bp_init_10 : decode b_bp_init 10 = .ok (.invokespecial 11, 3) := by decide +kernel
theorem d_bp_init_13 : decode b_bp_init 13 = .ok (.putfield 14, 3) := by decide +kernel
theorem d_bp_init_16 : decode b_bp_init 16 = .ok (.aload_n 0, 1) := by decide +kernel
theorem d_bp_init_17 : decode b_bp_init 17 = .ok (.new 9, 3) := by decide +kernel
theorem d_bp_init_20 : decode b_bp_init 20 = .ok (.dup, 1) := by decide +kernel
theorem d_bp_init_21 : decode b_bp_init 21 = .ok (.iconst 3, 1) := by decide +kernel
theorem d_bp_init_22 : decode b_bp_init 22 = .ok (.invokespecial 11, 3) := by decide +kernel
theorem d_bp_init_25 : decode b_bp_init 25 = .ok (.putfield 20, 3) := by decide +kernel
theorem d_bp_init_28 : decode b_bp_init 28 = .ok (.return_, 1) := by decide +kernel
theorem d_dg_init_0 : decode b_dg_init 0 = .ok (.aload_n 0, 1) := by decide +kernel
theorem d_dg_init_1 : decode b_dg_init 1 = .ok (.invokespecial 3, 3) := by decide +kernel
theorem d_dg_init_4 : decode b_dg_init 4 = .ok (.aload_n 0, 1) := by decide +kernel
theorem d_dg_init_5 : decode b_dg_init 5 = .ok (.bipush 61, 2) := by decide +kernel
theorem d_dg_init_7 : decode b_dg_init 7 = .ok (.newarray .long, 2) := by decide +kernel
theorem d_dg_init_9 : decode b_dg_init 9 = .ok (.putfield 9, 3) := by decide +kernel
theorem d_dg_init_12 : decode b_dg_init 12 = .ok (.aload_n 0, 1) := by decide +kernel
theorem d_dg_init_13 : decode b_dg_init 13 = .ok (.bipush 60, 2) := by decide +kernel
theorem d_dg_init_15 : decode b_dg_init 15 = .ok (.newarray .long, 2) := by decide +kernel
theorem d_dg_init_17 : decode b_dg_init 17 = .ok (.putfield 15, 3) := by decide +kernel
theorem d_dg_init_20 : decode b_dg_init 20 = .ok (.aload_n 0, 1) := by decide +kernel
theorem d_dg_init_21 : decode b_dg_init 21 = .ok (.bipush 61, 2) := by decide +kernel
theorem d_dg_init_23 : decode b_dg_init 23 = .ok (.newarray .long, 2) := by decide +kernel
theorem d_dg_init_25 : decode b_dg_init 25 = .ok (.putfield 18, 3) := by decide +kernel
theorem d_dg_init_28 : decode b_dg_init 28 = .ok (.aload_n 0, 1) := by decide +kernel
theorem d_dg_init_29 : decode b_dg_init 29 = .ok (.bipush 61, 2) := by decide +kernel
theorem d_dg_init_31 : decode b_dg_init 31 = .ok (.newarray .int, 2) := by decide +kernel
theorem d_dg_init_33 : decode b_dg_init 33 = .ok (.putfield 21, 3) := by decide +kernel
theorem d_dg_init_36 : decode b_dg_init 36 = .ok (.aload_n 0, 1) := by decide +kernel
theorem d_dg_init_37 : decode b_dg_init 37 = .ok (.bipush 61, 2) := by decide +kernel
theorem d_dg_init_39 : decode b_dg_init 39 = .ok (.newarray .int, 2) := by decide +kernel
theorem d_dg_init_41 : decode b_dg_init 41 = .ok (.putfield 25, 3) := by decide +kernel
theorem d_dg_init_44 : decode b_dg_init 44 = .ok (.aload_n 0, 1) := by decide +kernel
theorem d_dg_init_45 : decode b_dg_init 45 = .ok (.bipush 60, 2) := by decide +kernel
theorem d_dg_init_47 : decode b_dg_init 47 = .ok (.newarray .int, 2) := by decide +kernel
theorem d_dg_init_49 : decode b_dg_init 49 = .ok (.putfield 28, 3) := by decide +kernel
theorem d_dg_init_52 : decode b_dg_init 52 = .ok (.aload_n 0, 1) := by decide +kernel
theorem d_dg_init_53 : decode b_dg_init 53 = .ok (.bipush 60, 2) := by decide +kernel
theorem d_dg_init_55 : decode b_dg_init 55 = .ok (.newarray .int, 2) := by decide +kernel
theorem d_dg_init_57 : decode b_dg_init 57 = .ok (.putfield 31, 3) := by decide +kernel
theorem d_dg_init_60 : decode b_dg_init 60 = .ok (.aload_n 0, 1) := by decide +kernel
theorem d_dg_init_61 : decode b_dg_init 61 = .ok (.aload_n 1, 1) := by decide +kernel
theorem d_dg_init_62 : decode b_dg_init 62 = .ok (.putfield 34, 3) := by decide +kernel
theorem d_dg_init_65 : decode b_dg_init 65 = .ok (.aload_n 0, 1) := by decide +kernel
theorem d_dg_init_66 : decode b_dg_init 66 = .ok (.iload_n 2, 1) := by decide +kernel
theorem d_dg_init_67 : decode b_dg_init 67 = .ok (.putfield 38, 3) := by decide +kernel
theorem d_dg_init_70 : decode b_dg_init 70 = .ok (.return_, 1) := by decide +kernel
theorem d_le_init_0 : decode b_le_init 0 = .ok (.aload_n 0, 1) := by decide +kernel
theorem d_le_init_1 : decode b_le_init 1 = .ok (.invokespecial 3, 3) := by decide +kernel
theorem d_le_init_4 : decode b_le_init 4 = .ok (.aload_n 0, 1) := by decide +kernel
theorem d_le_init_5 : decode b_le_init 5 = .ok (.sipush 140, 3) := by decide +kernel
theorem d_le_init_8 : decode b_le_init 8 = .ok (.newarray .int, 2) := by decide +kernel
theorem d_le_init_10 : decode b_le_init 10 = .ok (.putfield 9, 3) := by decide +kernel
theorem d_le_init_13 : decode b_le_init 13 = .ok (.aload_n 0, 1) := by decide +kernel
theorem d_le_init_14 : decode b_le_init 14 = .ok (.aload_n 1, 1) := by decide +kernel
theorem d_le_init_15 : decode b_le_init 15 = .ok (.putfield 15, 3) := by decide +kernel
theorem d_le_init_18 : decode b_le_init 18 = .ok (.aload_n 0, 1) := by decide +kernel
theorem d_le_init_19 : decode b_le_init 19 = .ok (.aload_n 2, 1) := by decide +kernel
theorem d_le_init_20 : decode b_le_init 20 = .ok (.putfield 19, 3) := by decide +kernel
theorem d_le_init_23 : decode b_le_init 23 = .ok (.return_, 1) := by decide +kernel
theorem d_bl_parentAt_0 : decode b_bl_parentAt 0 = .ok (.aload_n 0, 1) := by decide +kernel
theorem d_bl_parentAt_1 : decode b_bl_parentAt 1 = .ok (.getfield 15, 3) := by decide +kernel
theorem d_bl_parentAt_4 : decode b_bl_parentAt 4 = .ok (.iload_n 1, 1) := by decide +kernel
theorem d_bl_parentAt_5 : decode b_bl_parentAt 5 = .ok (.iconst 4, 1) := by decide +kernel
theorem d_bl_parentAt_6 : decode b_bl_parentAt 6 = .ok (.imul, 1) := by decide +kernel
theorem d_bl_parentAt_7 : decode b_bl_parentAt 7 = .ok (.iload_n 2, 1) := by decide +kernel
theorem d_bl_parentAt_8 : decode b_bl_parentAt 8 = .ok (.iadd, 1) := by decide +kernel
theorem d_bl_parentAt_9 : decode b_bl_parentAt 9 = .ok (.iaload, 1) := by decide +kernel
theorem d_bl_parentAt_10 : decode b_bl_parentAt 10 = .ok (.ireturn, 1) := by decide +kernel
theorem d_bm_bit_0 : decode b_bm_bit 0 = .ok (.lconst 1, 1) := by decide +kernel
theorem d_bm_bit_1 : decode b_bm_bit 1 = .ok (.iload_n 0, 1) := by decide +kernel
theorem d_bm_bit_2 : decode b_bm_bit 2 = .ok (.lshl, 1) := by decide +kernel
theorem d_bm_bit_3 : decode b_bm_bit 3 = .ok (.lreturn, 1) := by decide +kernel
theorem d_bl_parentSet_0 : decode b_bl_parentSet 0 = .ok (.lconst 0, 1) := by decide +kernel
theorem d_bl_parentSet_1 : decode b_bl_parentSet 1 = .ok (.lstore_n 2, 1) := by decide +kernel
theorem d_bl_parentSet_2 : decode b_bl_parentSet 2 = .ok (.iconst 0, 1) := by decide +kernel
theorem d_bl_parentSet_3 : decode b_bl_parentSet 3 = .ok (.istore 4, 2) := by decide +kernel
theorem d_bl_parentSet_5 : decode b_bl_parentSet 5 = .ok (.iload 4, 2) := by decide +kernel
theorem d_bl_parentSet_7 : decode b_bl_parentSet 7 = .ok (.aload_n 0, 1) := by decide +kernel
theorem d_bl_parentSet_8 : decode b_bl_parentSet 8 = .ok (.getfield 9, 3) := by decide +kernel
theorem d_bl_parentSet_11 : decode b_bl_parentSet 11 = .ok (.iload_n 1, 1) := by decide +kernel
theorem d_bl_parentSet_12 : decode b_bl_parentSet 12 = .ok (.iaload, 1) := by decide +kernel
theorem d_bl_parentSet_13 : decode b_bl_parentSet 13 = .ok (.if_icmp .ge 22, 3) := by decide +kernel
theorem d_bl_parentSet_16 : decode b_bl_parentSet 16 = .ok (.lload_n 2, 1) := by decide +kernel
theorem d_bl_parentSet_17 : decode b_bl_parentSet 17 = .ok (.aload_n 0, 1) := by decide +kernel
theorem d_bl_parentSet_18 : decode b_bl_parentSet 18 = .ok (.iload_n 1, 1) := by decide +kernel
theorem d_bl_parentSet_19 : decode b_bl_parentSet 19 = .ok (.iload 4, 2) := by decide +kernel
theorem d_bl_parentSet_21 : decode b_bl_parentSet 21 = .ok (.invokevirtual 40, 3) := by decide +kernel
theorem d_bl_parentSet_24 : decode b_bl_parentSet 24 = .ok (.invokestatic 43, 3) := by decide +kernel
theorem d_bl_parentSet_27 : decode b_bl_parentSet 27 = .ok (.lor, 1) := by decide +kernel
theorem d_bl_parentSet_28 : decode b_bl_parentSet 28 = .ok (.lstore_n 2, 1) := by decide +kernel
theorem d_bl_parentSet_29 : decode b_bl_parentSet 29 = .ok (.iinc 4 1, 3) := by decide +kernel
theorem d_bl_parentSet_32 : decode b_bl_parentSet 32 = .ok (.goto (-27), 3) := by decide +kernel
theorem d_bl_parentSet_35 : decode b_bl_parentSet 35 = .ok (.lload_n 2, 1) := by decide +kernel
theorem d_bl_parentSet_36 : decode b_bl_parentSet 36 = .ok (.lreturn, 1) := by decide +kernel
theorem d_bm_holds_0 : decode b_bm_holds 0 = .ok (.lload_n 0, 1) := by decide +kernel
theorem d_bm_holds_1 : decode b_bm_holds 1 = .ok (.iload_n 2, 1) := by decide +kernel
theorem d_bm_holds_2 : decode b_bm_holds 2 = .ok (.lushr, 1) := by decide +kernel
theorem d_bm_holds_3 : decode b_bm_holds 3 = .ok (.lconst 1, 1) := by decide +kernel
theorem d_bm_holds_4 : decode b_bm_holds 4 = .ok (.land, 1) := by decide +kernel
theorem d_bm_holds_5 : decode b_bm_holds 5 = .ok (.lconst 0, 1) := by decide +kernel
theorem d_bm_holds_6 : decode b_bm_holds 6 = .ok (.lcmp, 1) := by decide +kernel
theorem d_bm_holds_7 : decode b_bm_holds 7 = .ok (.ifCond .eq 7, 3) := by decide +kernel
theorem d_bm_holds_10 : decode b_bm_holds 10 = .ok (.iconst 1, 1) := by decide +kernel
theorem d_bm_holds_11 : decode b_bm_holds 11 = .ok (.goto 4, 3) := by decide +kernel
theorem d_bm_holds_14 : decode b_bm_holds 14 = .ok (.iconst 0, 1) := by decide +kernel
theorem d_bm_holds_15 : decode b_bm_holds 15 = .ok (.ireturn, 1) := by decide +kernel
theorem d_bl_isEarlier_0 : decode b_bl_isEarlier 0 = .ok (.aload_n 0, 1) := by decide +kernel
theorem d_bl_isEarlier_1 : decode b_bl_isEarlier 1 = .ok (.getfield 27, 3) := by decide +kernel
theorem d_bl_isEarlier_4 : decode b_bl_isEarlier 4 = .ok (.iload_n 1, 1) := by decide +kernel
theorem d_bl_isEarlier_5 : decode b_bl_isEarlier 5 = .ok (.iaload, 1) := by decide +kernel
theorem d_bl_isEarlier_6 : decode b_bl_isEarlier 6 = .ok (.aload_n 0, 1) := by decide +kernel
theorem d_bl_isEarlier_7 : decode b_bl_isEarlier 7 = .ok (.getfield 27, 3) := by decide +kernel
theorem d_bl_isEarlier_10 : decode b_bl_isEarlier 10 = .ok (.iload_n 2, 1) := by decide +kernel
theorem d_bl_isEarlier_11 : decode b_bl_isEarlier 11 = .ok (.iaload, 1) := by decide +kernel
theorem d_bl_isEarlier_12 : decode b_bl_isEarlier 12 = .ok (.if_icmp .eq 26, 3) := by decide +kernel
theorem d_bl_isEarlier_15 : decode b_bl_isEarlier 15 = .ok (.aload_n 0, 1) := by decide +kernel
theorem d_bl_isEarlier_16 : decode b_bl_isEarlier 16 = .ok (.getfield 27, 3) := by decide +kernel
theorem d_bl_isEarlier_19 : decode b_bl_isEarlier 19 = .ok (.iload_n 1, 1) := by decide +kernel
theorem d_bl_isEarlier_20 : decode b_bl_isEarlier 20 = .ok (.iaload, 1) := by decide +kernel
theorem d_bl_isEarlier_21 : decode b_bl_isEarlier 21 = .ok (.aload_n 0, 1) := by decide +kernel
theorem d_bl_isEarlier_22 : decode b_bl_isEarlier 22 = .ok (.getfield 27, 3) := by decide +kernel
theorem d_bl_isEarlier_25 : decode b_bl_isEarlier 25 = .ok (.iload_n 2, 1) := by decide +kernel
theorem d_bl_isEarlier_26 : decode b_bl_isEarlier 26 = .ok (.iaload, 1) := by decide +kernel
theorem d_bl_isEarlier_27 : decode b_bl_isEarlier 27 = .ok (.if_icmp .ge 7, 3) := by decide +kernel
theorem d_bl_isEarlier_30 : decode b_bl_isEarlier 30 = .ok (.iconst 1, 1) := by decide +kernel
theorem d_bl_isEarlier_31 : decode b_bl_isEarlier 31 = .ok (.goto 17, 3) := by decide +kernel
theorem d_bl_isEarlier_34 : decode b_bl_isEarlier 34 = .ok (.iconst 0, 1) := by decide +kernel
theorem d_bl_isEarlier_35 : decode b_bl_isEarlier 35 = .ok (.goto 13, 3) := by decide +kernel
theorem d_bl_isEarlier_38 : decode b_bl_isEarlier 38 = .ok (.iload_n 1, 1) := by decide +kernel
theorem d_bl_isEarlier_39 : decode b_bl_isEarlier 39 = .ok (.iload_n 2, 1) := by decide +kernel
theorem d_bl_isEarlier_40 : decode b_bl_isEarlier 40 = .ok (.if_icmp .ge 7, 3) := by decide +kernel
theorem d_bl_isEarlier_43 : decode b_bl_isEarlier 43 = .ok (.iconst 1, 1) := by decide +kernel
theorem d_bl_isEarlier_44 : decode b_bl_isEarlier 44 = .ok (.goto 4, 3) := by decide +kernel
theorem d_bl_isEarlier_47 : decode b_bl_isEarlier 47 = .ok (.iconst 0, 1) := by decide +kernel
theorem d_bl_isEarlier_48 : decode b_bl_isEarlier 48 = .ok (.ireturn, 1) := by decide +kernel
theorem d_dg_isHeavier_0 : decode b_dg_isHeavier 0 = .ok (.aload_n 0, 1) := by decide +kernel
theorem d_dg_isHeavier_1 : decode b_dg_isHeavier 1 = .ok (.getfield 21, 3) := by decide +kernel
theorem d_dg_isHeavier_4 : decode b_dg_isHeavier 4 = .ok (.iload_n 1, 1) := by decide +kernel
theorem d_dg_isHeavier_5 : decode b_dg_isHeavier 5 = .ok (.iaload, 1) := by decide +kernel
theorem d_dg_isHeavier_6 : decode b_dg_isHeavier 6 = .ok (.aload_n 0, 1) := by decide +kernel
theorem d_dg_isHeavier_7 : decode b_dg_isHeavier 7 = .ok (.getfield 21, 3) := by decide +kernel
theorem d_dg_isHeavier_10 : decode b_dg_isHeavier 10 = .ok (.iload_n 2, 1) := by decide +kernel
theorem d_dg_isHeavier_11 : decode b_dg_isHeavier 11 = .ok (.iaload, 1) := by decide +kernel
theorem d_dg_isHeavier_12 : decode b_dg_isHeavier 12 = .ok (.if_icmp .eq 26, 3) := by decide +kernel
theorem d_dg_isHeavier_15 : decode b_dg_isHeavier 15 = .ok (.aload_n 0, 1) := by decide +kernel
theorem d_dg_isHeavier_16 : decode b_dg_isHeavier 16 = .ok (.getfield 21, 3) := by decide +kernel
theorem d_dg_isHeavier_19 : decode b_dg_isHeavier 19 = .ok (.iload_n 1, 1) := by decide +kernel
theorem d_dg_isHeavier_20 : decode b_dg_isHeavier 20 = .ok (.iaload, 1) := by decide +kernel
theorem d_dg_isHeavier_21 : decode b_dg_isHeavier 21 = .ok (.aload_n 0, 1) := by decide +kernel
theorem d_dg_isHeavier_22 : decode b_dg_isHeavier 22 = .ok (.getfield 21, 3) := by decide +kernel
theorem d_dg_isHeavier_25 : decode b_dg_isHeavier 25 = .ok (.iload_n 2, 1) := by decide +kernel
theorem d_dg_isHeavier_26 : decode b_dg_isHeavier 26 = .ok (.iaload, 1) := by decide +kernel
theorem d_dg_isHeavier_27 : decode b_dg_isHeavier 27 = .ok (.if_icmp .le 7, 3) := by decide +kernel
theorem d_dg_isHeavier_30 : decode b_dg_isHeavier 30 = .ok (.iconst 1, 1) := by decide +kernel
theorem d_dg_isHeavier_31 : decode b_dg_isHeavier 31 = .ok (.goto 16, 3) := by decide +kernel
theorem d_dg_isHeavier_34 : decode b_dg_isHeavier 34 = .ok (.iconst 0, 1) := by decide +kernel
theorem d_dg_isHeavier_35 : decode b_dg_isHeavier 35 = .ok (.goto 12, 3) := by decide +kernel
theorem d_dg_isHeavier_38 : decode b_dg_isHeavier 38 = .ok (.aload_n 0, 1) := by decide +kernel
theorem d_dg_isHeavier_39 : decode b_dg_isHeavier 39 = .ok (.getfield 34, 3) := by decide +kernel
theorem d_dg_isHeavier_42 : decode b_dg_isHeavier 42 = .ok (.iload_n 1, 1) := by decide +kernel
theorem d_dg_isHeavier_43 : decode b_dg_isHeavier 43 = .ok (.iload_n 2, 1) := by decide +kernel
theorem d_dg_isHeavier_44 : decode b_dg_isHeavier 44 = .ok (.invokevirtual 114, 3) := by decide +kernel
theorem d_dg_isHeavier_47 : decode b_dg_isHeavier 47 = .ok (.ireturn, 1) := by decide +kernel
theorem d_dg_heaviest_0 : decode b_dg_heaviest 0 = .ok (.iconst (-1), 1) := by decide +kernel
theorem d_dg_heaviest_1 : decode b_dg_heaviest 1 = .ok (.istore_n 3, 1) := by decide +kernel
theorem d_dg_heaviest_2 : decode b_dg_heaviest 2 = .ok (.iconst 0, 1) := by decide +kernel
theorem d_dg_heaviest_3 : decode b_dg_heaviest 3 = .ok (.istore 4, 2) := by decide +kernel
theorem d_dg_heaviest_5 : decode b_dg_heaviest 5 = .ok (.iload 4, 2) := by decide +kernel
theorem d_dg_heaviest_7 : decode b_dg_heaviest 7 = .ok (.aload_n 0, 1) := by decide +kernel
theorem d_dg_heaviest_8 : decode b_dg_heaviest 8 = .ok (.getfield 34, 3) := by decide +kernel
theorem d_dg_heaviest_11 : decode b_dg_heaviest 11 = .ok (.getfield 72, 3) := by decide +kernel
theorem d_dg_heaviest_14 : decode b_dg_heaviest 14 = .ok (.if_icmp .ge 36, 3) := by decide +kernel
theorem d_dg_heaviest_17 : decode b_dg_heaviest 17 = .ok (.lload_n 1, 1) := by decide +kernel
theorem d_dg_heaviest_18 : decode b_dg_heaviest 18 = .ok (.iload 4, 2) := by decide +kernel
theorem d_dg_heaviest_20 : decode b_dg_heaviest 20 = .ok (.invokestatic 52, 3) := by decide +kernel
theorem d_dg_heaviest_23 : decode b_dg_heaviest 23 = .ok (.ifCond .eq 21, 3) := by decide +kernel
theorem d_dg_heaviest_26 : decode b_dg_heaviest 26 = .ok (.iload_n 3, 1) := by decide +kernel
theorem d_dg_heaviest_27 : decode b_dg_heaviest 27 = .ok (.iconst (-1), 1) := by decide +kernel
theorem d_dg_heaviest_28 : decode b_dg_heaviest 28 = .ok (.if_icmp .eq 13, 3) := by decide +kernel
theorem d_dg_heaviest_31 : decode b_dg_heaviest 31 = .ok (.aload_n 0, 1) := by decide +kernel
theorem d_dg_heaviest_32 : decode b_dg_heaviest 32 = .ok (.iload 4, 2) := by decide +kernel
theorem d_dg_heaviest_34 : decode b_dg_heaviest 34 = .ok (.iload_n 3, 1) := by decide +kernel
theorem d_dg_heaviest_35 : decode b_dg_heaviest 35 = .ok (.invokevirtual 75, 3) := by decide +kernel
theorem d_dg_heaviest_38 : decode b_dg_heaviest 38 = .ok (.ifCond .eq 6, 3) := by decide +kernel
theorem d_dg_heaviest_41 : decode b_dg_heaviest 41 = .ok (.iload 4, 2) := by decide +kernel
theorem d_dg_heaviest_43 : decode b_dg_heaviest 43 = .ok (.istore_n 3, 1) := by decide +kernel
theorem d_dg_heaviest_44 : decode b_dg_heaviest 44 = .ok (.iinc 4 1, 3) := by decide +kernel
theorem d_dg_heaviest_47 : decode b_dg_heaviest 47 = .ok (.goto (-42), 3) := by decide +kernel
theorem d_dg_heaviest_50 : decode b_dg_heaviest 50 = .ok (.iload_n 3, 1) := by decide +kernel
theorem d_dg_heaviest_51 : decode b_dg_heaviest 51 = .ok (.ireturn, 1) := by decide +kernel
theorem d_dg_pastOf_0 : decode b_dg_pastOf 0 = .ok (.lconst 0, 1) := by decide +kernel
theorem d_dg_pastOf_1 : decode b_dg_pastOf 1 = .ok (.lstore_n 3, 1) := by decide +kernel
theorem d_dg_pastOf_2 : decode b_dg_pastOf 2 = .ok (.iconst 0, 1) := by decide +kernel
theorem d_dg_pastOf_3 : decode b_dg_pastOf 3 = .ok (.istore 5, 2) := by decide +kernel
theorem d_dg_pastOf_5 : decode b_dg_pastOf 5 = .ok (.iload 5, 2) := by decide +kernel
theorem d_dg_pastOf_7 : decode b_dg_pastOf 7 = .ok (.aload_n 0, 1) := by decide +kernel
theorem d_dg_pastOf_8 : decode b_dg_pastOf 8 = .ok (.getfield 34, 3) := by decide +kernel
theorem d_dg_pastOf_11 : decode b_dg_pastOf 11 = .ok (.getfield 72, 3) := by decide +kernel
theorem d_dg_pastOf_14 : decode b_dg_pastOf 14 = .ok (.if_icmp .ge 28, 3) := by decide +kernel
theorem d_dg_pastOf_17 : decode b_dg_pastOf 17 = .ok (.lload_n 1, 1) := by decide +kernel
theorem d_dg_pastOf_18 : decode b_dg_pastOf 18 = .ok (.iload 5, 2) := by decide +kernel
theorem d_dg_pastOf_20 : decode b_dg_pastOf 20 = .ok (.invokestatic 52, 3) := by decide +kernel
theorem d_dg_pastOf_23 : decode b_dg_pastOf 23 = .ok (.ifCond .eq 13, 3) := by decide +kernel
theorem d_dg_pastOf_26 : decode b_dg_pastOf 26 = .ok (.lload_n 3, 1) := by decide +kernel
theorem d_dg_pastOf_27 : decode b_dg_pastOf 27 = .ok (.aload_n 0, 1) := by decide +kernel
theorem d_dg_pastOf_28 : decode b_dg_pastOf 28 = .ok (.getfield 9, 3) := by decide +kernel
theorem d_dg_pastOf_31 : decode b_dg_pastOf 31 = .ok (.iload 5, 2) := by decide +kernel
theorem d_dg_pastOf_33 : decode b_dg_pastOf 33 = .ok (.laload, 1) := by decide +kernel
theorem d_dg_pastOf_34 : decode b_dg_pastOf 34 = .ok (.lor, 1) := by decide +kernel
theorem d_dg_pastOf_35 : decode b_dg_pastOf 35 = .ok (.lstore_n 3, 1) := by decide +kernel
theorem d_dg_pastOf_36 : decode b_dg_pastOf 36 = .ok (.iinc 5 1, 3) := by decide +kernel
theorem d_dg_pastOf_39 : decode b_dg_pastOf 39 = .ok (.goto (-34), 3) := by decide +kernel
theorem d_dg_pastOf_42 : decode b_dg_pastOf 42 = .ok (.lload_n 3, 1) := by decide +kernel
theorem d_dg_pastOf_43 : decode b_dg_pastOf 43 = .ok (.lreturn, 1) := by decide +kernel
theorem d_dg_mergedBy_0 : decode b_dg_mergedBy 0 = .ok (.aload_n 0, 1) := by decide +kernel
theorem d_dg_mergedBy_1 : decode b_dg_mergedBy 1 = .ok (.getfield 25, 3) := by decide +kernel
theorem d_dg_mergedBy_4 : decode b_dg_mergedBy 4 = .ok (.iload_n 1, 1) := by decide +kernel
theorem d_dg_mergedBy_5 : decode b_dg_mergedBy 5 = .ok (.iaload, 1) := by decide +kernel
theorem d_dg_mergedBy_6 : decode b_dg_mergedBy 6 = .ok (.istore_n 2, 1) := by decide +kernel
theorem d_dg_mergedBy_7 : decode b_dg_mergedBy 7 = .ok (.iload_n 2, 1) := by decide +kernel
theorem d_dg_mergedBy_8 : decode b_dg_mergedBy 8 = .ok (.iconst (-1), 1) := by decide +kernel
theorem d_dg_mergedBy_9 : decode b_dg_mergedBy 9 = .ok (.if_icmp .ne 7, 3) := by decide +kernel
theorem d_dg_mergedBy_12 : decode b_dg_mergedBy 12 = .ok (.lconst 0, 1) := by decide +kernel
theorem d_dg_mergedBy_13 : decode b_dg_mergedBy 13 = .ok (.goto 29, 3) := by decide +kernel
theorem d_dg_mergedBy_16 : decode b_dg_mergedBy 16 = .ok (.aload_n 0, 1) := by decide +kernel
theorem d_dg_mergedBy_17 : decode b_dg_mergedBy 17 = .ok (.getfield 9, 3) := by decide +kernel
theorem d_dg_mergedBy_20 : decode b_dg_mergedBy 20 = .ok (.iload_n 1, 1) := by decide +kernel
theorem d_dg_mergedBy_21 : decode b_dg_mergedBy 21 = .ok (.laload, 1) := by decide +kernel
theorem d_dg_mergedBy_22 : decode b_dg_mergedBy 22 = .ok (.aload_n 0, 1) := by decide +kernel
theorem d_dg_mergedBy_23 : decode b_dg_mergedBy 23 = .ok (.getfield 9, 3) := by decide +kernel
theorem d_dg_mergedBy_26 : decode b_dg_mergedBy 26 = .ok (.iload_n 2, 1) := by decide +kernel
theorem d_dg_mergedBy_27 : decode b_dg_mergedBy 27 = .ok (.laload, 1) := by decide +kernel
theorem d_dg_mergedBy_28 : decode b_dg_mergedBy 28 = .ok (.ldc2_w 62, 3) := by decide +kernel
theorem d_dg_mergedBy_31 : decode b_dg_mergedBy 31 = .ok (.lxor, 1) := by decide +kernel
theorem d_dg_mergedBy_32 : decode b_dg_mergedBy 32 = .ok (.land, 1) := by decide +kernel
theorem d_dg_mergedBy_33 : decode b_dg_mergedBy 33 = .ok (.iload_n 2, 1) := by decide +kernel
theorem d_dg_mergedBy_34 : decode b_dg_mergedBy 34 = .ok (.invokestatic 79, 3) := by decide +kernel
theorem d_dg_mergedBy_37 : decode b_dg_mergedBy 37 = .ok (.ldc2_w 62, 3) := by decide +kernel
theorem d_dg_mergedBy_40 : decode b_dg_mergedBy 40 = .ok (.lxor, 1) := by decide +kernel
theorem d_dg_mergedBy_41 : decode b_dg_mergedBy 41 = .ok (.land, 1) := by decide +kernel
theorem d_dg_mergedBy_42 : decode b_dg_mergedBy 42 = .ok (.lreturn, 1) := by decide +kernel
theorem d_dg_isBefore_0 : decode b_dg_isBefore 0 = .ok (.aload_n 0, 1) := by decide +kernel
theorem d_dg_isBefore_1 : decode b_dg_isBefore 1 = .ok (.getfield 21, 3) := by decide +kernel
theorem d_dg_isBefore_4 : decode b_dg_isBefore 4 = .ok (.iload_n 1, 1) := by decide +kernel
theorem d_dg_isBefore_5 : decode b_dg_isBefore 5 = .ok (.iaload, 1) := by decide +kernel
theorem d_dg_isBefore_6 : decode b_dg_isBefore 6 = .ok (.aload_n 0, 1) := by decide +kernel
theorem d_dg_isBefore_7 : decode b_dg_isBefore 7 = .ok (.getfield 21, 3) := by decide +kernel
theorem d_dg_isBefore_10 : decode b_dg_isBefore 10 = .ok (.iload_n 2, 1) := by decide +kernel
theorem d_dg_isBefore_11 : decode b_dg_isBefore 11 = .ok (.iaload, 1) := by decide +kernel
theorem d_dg_isBefore_12 : decode b_dg_isBefore 12 = .ok (.if_icmp .eq 26, 3) := by decide +kernel
theorem d_dg_isBefore_15 : decode b_dg_isBefore 15 = .ok (.aload_n 0, 1) := by decide +kernel
theorem d_dg_isBefore_16 : decode b_dg_isBefore 16 = .ok (.getfield 21, 3) := by decide +kernel
theorem d_dg_isBefore_19 : decode b_dg_isBefore 19 = .ok (.iload_n 1, 1) := by decide +kernel
theorem d_dg_isBefore_20 : decode b_dg_isBefore 20 = .ok (.iaload, 1) := by decide +kernel
theorem d_dg_isBefore_21 : decode b_dg_isBefore 21 = .ok (.aload_n 0, 1) := by decide +kernel
theorem d_dg_isBefore_22 : decode b_dg_isBefore 22 = .ok (.getfield 21, 3) := by decide +kernel
theorem d_dg_isBefore_25 : decode b_dg_isBefore 25 = .ok (.iload_n 2, 1) := by decide +kernel
theorem d_dg_isBefore_26 : decode b_dg_isBefore 26 = .ok (.iaload, 1) := by decide +kernel
theorem d_dg_isBefore_27 : decode b_dg_isBefore 27 = .ok (.if_icmp .ge 7, 3) := by decide +kernel
theorem d_dg_isBefore_30 : decode b_dg_isBefore 30 = .ok (.iconst 1, 1) := by decide +kernel
theorem d_dg_isBefore_31 : decode b_dg_isBefore 31 = .ok (.goto 16, 3) := by decide +kernel
theorem d_dg_isBefore_34 : decode b_dg_isBefore 34 = .ok (.iconst 0, 1) := by decide +kernel
theorem d_dg_isBefore_35 : decode b_dg_isBefore 35 = .ok (.goto 12, 3) := by decide +kernel
theorem d_dg_isBefore_38 : decode b_dg_isBefore 38 = .ok (.aload_n 0, 1) := by decide +kernel
theorem d_dg_isBefore_39 : decode b_dg_isBefore 39 = .ok (.getfield 34, 3) := by decide +kernel
theorem d_dg_isBefore_42 : decode b_dg_isBefore 42 = .ok (.iload_n 1, 1) := by decide +kernel
theorem d_dg_isBefore_43 : decode b_dg_isBefore 43 = .ok (.iload_n 2, 1) := by decide +kernel
theorem d_dg_isBefore_44 : decode b_dg_isBefore 44 = .ok (.invokevirtual 114, 3) := by decide +kernel
theorem d_dg_isBefore_47 : decode b_dg_isBefore 47 = .ok (.ireturn, 1) := by decide +kernel
theorem d_dg_sortByScore_0 : decode b_dg_sortByScore 0 = .ok (.iconst 0, 1) := by decide +kernel
theorem d_dg_sortByScore_1 : decode b_dg_sortByScore 1 = .ok (.istore_n 3, 1) := by decide +kernel
theorem d_dg_sortByScore_2 : decode b_dg_sortByScore 2 = .ok (.iconst 0, 1) := by decide +kernel
theorem d_dg_sortByScore_3 : decode b_dg_sortByScore 3 = .ok (.istore 4, 2) := by decide +kernel
theorem d_dg_sortByScore_5 : decode b_dg_sortByScore 5 = .ok (.iload 4, 2) := by decide +kernel
theorem d_dg_sortByScore_7 : decode b_dg_sortByScore 7 = .ok (.aload_n 0, 1) := by decide +kernel
theorem d_dg_sortByScore_8 : decode b_dg_sortByScore 8 = .ok (.getfield 34, 3) := by decide +kernel
theorem d_dg_sortByScore_11 : decode b_dg_sortByScore 11 = .ok (.getfield 72, 3) := by decide +kernel
theorem d_dg_sortByScore_14 : decode b_dg_sortByScore 14 = .ok (.if_icmp .ge 81, 3) := by decide +kernel
theorem d_dg_sortByScore_17 : decode b_dg_sortByScore 17 = .ok (.lload_n 1, 1) := by decide +kernel
theorem d_dg_sortByScore_18 : decode b_dg_sortByScore 18 = .ok (.iload 4, 2) := by decide +kernel
theorem d_dg_sortByScore_20 : decode b_dg_sortByScore 20 = .ok (.invokestatic 52, 3) := by decide +kernel
theorem d_dg_sortByScore_23 : decode b_dg_sortByScore 23 = .ok (.ifCond .ne 6, 3) := by decide +kernel
theorem d_dg_sortByScore_26 : decode b_dg_sortByScore 26 = .ok (.goto 63, 3) := by decide +kernel
theorem d_dg_sortByScore_29 : decode b_dg_sortByScore 29 = .ok (.iload_n 3, 1) := by decide +kernel
theorem d_dg_sortByScore_30 : decode b_dg_sortByScore 30 = .ok (.istore 5, 2) := by decide +kernel
theorem d_dg_sortByScore_32 : decode b_dg_sortByScore 32 = .ok (.iload 5, 2) := by decide +kernel
theorem d_dg_sortByScore_34 : decode b_dg_sortByScore 34 = .ok (.ifCond .le 43, 3) := by decide +kernel
theorem d_dg_sortByScore_37 : decode b_dg_sortByScore 37 = .ok (.aload_n 0, 1) := by decide +kernel
theorem d_dg_sortByScore_38 : decode b_dg_sortByScore 38 = .ok (.iload 4, 2) := by decide +kernel
theorem d_dg_sortByScore_40 : decode b_dg_sortByScore 40 = .ok (.aload_n 0, 1) := by decide +kernel
theorem d_dg_sortByScore_41 : decode b_dg_sortByScore 41 = .ok (.getfield 31, 3) := by decide +kernel
theorem d_dg_sortByScore_44 : decode b_dg_sortByScore 44 = .ok (.iload 5, 2) := by decide +kernel
theorem d_dg_sortByScore_46 : decode b_dg_sortByScore 46 = .ok (.iconst 1, 1) := by decide +kernel
theorem d_dg_sortByScore_47 : decode b_dg_sortByScore 47 = .ok (.isub, 1) := by decide +kernel
theorem d_dg_sortByScore_48 : decode b_dg_sortByScore 48 = .ok (.iaload, 1) := by decide +kernel
theorem d_dg_sortByScore_49 : decode b_dg_sortByScore 49 = .ok (.invokevirtual 111, 3) := by decide +kernel
theorem d_dg_sortByScore_52 : decode b_dg_sortByScore 52 = .ok (.ifCond .eq 25, 3) := by decide +kernel
theorem d_dg_sortByScore_55 : decode b_dg_sortByScore 55 = .ok (.aload_n 0, 1) := by decide +kernel
theorem d_dg_sortByScore_56 : decode b_dg_sortByScore 56 = .ok (.getfield 31, 3) := by decide +kernel
theorem d_dg_sortByScore_59 : decode b_dg_sortByScore 59 = .ok (.iload 5, 2) := by decide +kernel
theorem d_dg_sortByScore_61 : decode b_dg_sortByScore 61 = .ok (.aload_n 0, 1) := by decide +kernel
theorem d_dg_sortByScore_62 : decode b_dg_sortByScore 62 = .ok (.getfield 31, 3) := by decide +kernel
theorem d_dg_sortByScore_65 : decode b_dg_sortByScore 65 = .ok (.iload 5, 2) := by decide +kernel
theorem d_dg_sortByScore_67 : decode b_dg_sortByScore 67 = .ok (.iconst 1, 1) := by decide +kernel
theorem d_dg_sortByScore_68 : decode b_dg_sortByScore 68 = .ok (.isub, 1) := by decide +kernel
theorem d_dg_sortByScore_69 : decode b_dg_sortByScore 69 = .ok (.iaload, 1) := by decide +kernel
theorem d_dg_sortByScore_70 : decode b_dg_sortByScore 70 = .ok (.iastore, 1) := by decide +kernel
theorem d_dg_sortByScore_71 : decode b_dg_sortByScore 71 = .ok (.iinc 5 (-1), 3) := by decide +kernel
theorem d_dg_sortByScore_74 : decode b_dg_sortByScore 74 = .ok (.goto (-42), 3) := by decide +kernel
theorem d_dg_sortByScore_77 : decode b_dg_sortByScore 77 = .ok (.aload_n 0, 1) := by decide +kernel
theorem d_dg_sortByScore_78 : decode b_dg_sortByScore 78 = .ok (.getfield 31, 3) := by decide +kernel
theorem d_dg_sortByScore_81 : decode b_dg_sortByScore 81 = .ok (.iload 5, 2) := by decide +kernel
theorem d_dg_sortByScore_83 : decode b_dg_sortByScore 83 = .ok (.iload 4, 2) := by decide +kernel
theorem d_dg_sortByScore_85 : decode b_dg_sortByScore 85 = .ok (.iastore, 1) := by decide +kernel
theorem d_dg_sortByScore_86 : decode b_dg_sortByScore 86 = .ok (.iinc 3 1, 3) := by decide +kernel
theorem d_dg_sortByScore_89 : decode b_dg_sortByScore 89 = .ok (.iinc 4 1, 3) := by decide +kernel
theorem d_dg_sortByScore_92 : decode b_dg_sortByScore 92 = .ok (.goto (-87), 3) := by decide +kernel
theorem d_dg_sortByScore_95 : decode b_dg_sortByScore 95 = .ok (.iload_n 3, 1) := by decide +kernel
theorem d_dg_sortByScore_96 : decode b_dg_sortByScore 96 = .ok (.ireturn, 1) := by decide +kernel
theorem d_dg_anticone_0 : decode b_dg_anticone 0 = .ok (.aload_n 0, 1) := by decide +kernel
theorem d_dg_anticone_1 : decode b_dg_anticone 1 = .ok (.getfield 42, 3) := by decide +kernel
theorem d_dg_anticone_4 : decode b_dg_anticone 4 = .ok (.aload_n 0, 1) := by decide +kernel
theorem d_dg_anticone_5 : decode b_dg_anticone 5 = .ok (.getfield 9, 3) := by decide +kernel
theorem d_dg_anticone_8 : decode b_dg_anticone 8 = .ok (.iload_n 1, 1) := by decide +kernel
theorem d_dg_anticone_9 : decode b_dg_anticone 9 = .ok (.laload, 1) := by decide +kernel
theorem d_dg_anticone_10 : decode b_dg_anticone 10 = .ok (.ldc2_w 62, 3) := by decide +kernel
theorem d_dg_anticone_13 : decode b_dg_anticone 13 = .ok (.lxor, 1) := by decide +kernel
theorem d_dg_anticone_14 : decode b_dg_anticone 14 = .ok (.land, 1) := by decide +kernel
theorem d_dg_anticone_15 : decode b_dg_anticone 15 = .ok (.aload_n 0, 1) := by decide +kernel
theorem d_dg_anticone_16 : decode b_dg_anticone 16 = .ok (.getfield 15, 3) := by decide +kernel
theorem d_dg_anticone_19 : decode b_dg_anticone 19 = .ok (.iload_n 1, 1) := by decide +kernel
theorem d_dg_anticone_20 : decode b_dg_anticone 20 = .ok (.laload, 1) := by decide +kernel
theorem d_dg_anticone_21 : decode b_dg_anticone 21 = .ok (.ldc2_w 62, 3) := by decide +kernel
theorem d_dg_anticone_24 : decode b_dg_anticone 24 = .ok (.lxor, 1) := by decide +kernel
theorem d_dg_anticone_25 : decode b_dg_anticone 25 = .ok (.land, 1) := by decide +kernel
theorem d_dg_anticone_26 : decode b_dg_anticone 26 = .ok (.iload_n 1, 1) := by decide +kernel
theorem d_dg_anticone_27 : decode b_dg_anticone 27 = .ok (.invokestatic 79, 3) := by decide +kernel
theorem d_dg_anticone_30 : decode b_dg_anticone 30 = .ok (.ldc2_w 62, 3) := by decide +kernel
theorem d_dg_anticone_33 : decode b_dg_anticone 33 = .ok (.lxor, 1) := by decide +kernel
theorem d_dg_anticone_34 : decode b_dg_anticone 34 = .ok (.land, 1) := by decide +kernel
theorem d_dg_anticone_35 : decode b_dg_anticone 35 = .ok (.lreturn, 1) := by decide +kernel
theorem d_jl_bitCount_0 : decode b_jl_bitCount 0 = .ok (.lload_n 0, 1) := by decide +kernel
theorem d_jl_bitCount_1 : decode b_jl_bitCount 1 = .ok (.lload_n 0, 1) := by decide +kernel
theorem d_jl_bitCount_2 : decode b_jl_bitCount 2 = .ok (.iconst 1, 1) := by decide +kernel
theorem d_jl_bitCount_3 : decode b_jl_bitCount 3 = .ok (.lushr, 1) := by decide +kernel
theorem d_jl_bitCount_4 : decode b_jl_bitCount 4 = .ok (.ldc2_w 314, 3) := by decide +kernel
theorem d_jl_bitCount_7 : decode b_jl_bitCount 7 = .ok (.land, 1) := by decide +kernel
theorem d_jl_bitCount_8 : decode b_jl_bitCount 8 = .ok (.lsub, 1) := by decide +kernel
theorem d_jl_bitCount_9 : decode b_jl_bitCount 9 = .ok (.lstore_n 0, 1) := by decide +kernel
theorem d_jl_bitCount_10 : decode b_jl_bitCount 10 = .ok (.lload_n 0, 1) := by decide +kernel
theorem d_jl_bitCount_11 : decode b_jl_bitCount 11 = .ok (.ldc2_w 316, 3) := by decide +kernel
theorem d_jl_bitCount_14 : decode b_jl_bitCount 14 = .ok (.land, 1) := by decide +kernel
theorem d_jl_bitCount_15 : decode b_jl_bitCount 15 = .ok (.lload_n 0, 1) := by decide +kernel
theorem d_jl_bitCount_16 : decode b_jl_bitCount 16 = .ok (.iconst 2, 1) := by decide +kernel
theorem d_jl_bitCount_17 : decode b_jl_bitCount 17 = .ok (.lushr, 1) := by decide +kernel
theorem d_jl_bitCount_18 : decode b_jl_bitCount 18 = .ok (.ldc2_w 316, 3) := by decide +kernel
theorem d_jl_bitCount_21 : decode b_jl_bitCount 21 = .ok (.land, 1) := by decide +kernel
theorem d_jl_bitCount_22 : decode b_jl_bitCount 22 = .ok (.ladd, 1) := by decide +kernel
theorem d_jl_bitCount_23 : decode b_jl_bitCount 23 = .ok (.lstore_n 0, 1) := by decide +kernel
theorem d_jl_bitCount_24 : decode b_jl_bitCount 24 = .ok (.lload_n 0, 1) := by decide +kernel
theorem d_jl_bitCount_25 : decode b_jl_bitCount 25 = .ok (.lload_n 0, 1) := by decide +kernel
theorem d_jl_bitCount_26 : decode b_jl_bitCount 26 = .ok (.iconst 4, 1) := by decide +kernel
theorem d_jl_bitCount_27 : decode b_jl_bitCount 27 = .ok (.lushr, 1) := by decide +kernel
theorem d_jl_bitCount_28 : decode b_jl_bitCount 28 = .ok (.ladd, 1) := by decide +kernel
theorem d_jl_bitCount_29 : decode b_jl_bitCount 29 = .ok (.ldc2_w 318, 3) := by decide +kernel
theorem d_jl_bitCount_32 : decode b_jl_bitCount 32 = .ok (.land, 1) := by decide +kernel
theorem d_jl_bitCount_33 : decode b_jl_bitCount 33 = .ok (.lstore_n 0, 1) := by decide +kernel
theorem d_jl_bitCount_34 : decode b_jl_bitCount 34 = .ok (.lload_n 0, 1) := by decide +kernel
theorem d_jl_bitCount_35 : decode b_jl_bitCount 35 = .ok (.lload_n 0, 1) := by decide +kernel
theorem d_jl_bitCount_36 : decode b_jl_bitCount 36 = .ok (.bipush 8, 2) := by decide +kernel
theorem d_jl_bitCount_38 : decode b_jl_bitCount 38 = .ok (.lushr, 1) := by decide +kernel
theorem d_jl_bitCount_39 : decode b_jl_bitCount 39 = .ok (.ladd, 1) := by decide +kernel
theorem d_jl_bitCount_40 : decode b_jl_bitCount 40 = .ok (.lstore_n 0, 1) := by decide +kernel
theorem d_jl_bitCount_41 : decode b_jl_bitCount 41 = .ok (.lload_n 0, 1) := by decide +kernel
theorem d_jl_bitCount_42 : decode b_jl_bitCount 42 = .ok (.lload_n 0, 1) := by decide +kernel
theorem d_jl_bitCount_43 : decode b_jl_bitCount 43 = .ok (.bipush 16, 2) := by decide +kernel
theorem d_jl_bitCount_45 : decode b_jl_bitCount 45 = .ok (.lushr, 1) := by decide +kernel
theorem d_jl_bitCount_46 : decode b_jl_bitCount 46 = .ok (.ladd, 1) := by decide +kernel
theorem d_jl_bitCount_47 : decode b_jl_bitCount 47 = .ok (.lstore_n 0, 1) := by decide +kernel
theorem d_jl_bitCount_48 : decode b_jl_bitCount 48 = .ok (.lload_n 0, 1) := by decide +kernel
theorem d_jl_bitCount_49 : decode b_jl_bitCount 49 = .ok (.lload_n 0, 1) := by decide +kernel
theorem d_jl_bitCount_50 : decode b_jl_bitCount 50 = .ok (.bipush 32, 2) := by decide +kernel
theorem d_jl_bitCount_52 : decode b_jl_bitCount 52 = .ok (.lushr, 1) := by decide +kernel
theorem d_jl_bitCount_53 : decode b_jl_bitCount 53 = .ok (.ladd, 1) := by decide +kernel
theorem d_jl_bitCount_54 : decode b_jl_bitCount 54 = .ok (.lstore_n 0, 1) := by decide +kernel
theorem d_jl_bitCount_55 : decode b_jl_bitCount 55 = .ok (.lload_n 0, 1) := by decide +kernel
theorem d_jl_bitCount_56 : decode b_jl_bitCount 56 = .ok (.l2i, 1) := by decide +kernel
theorem d_jl_bitCount_57 : decode b_jl_bitCount 57 = .ok (.bipush 127, 2) := by decide +kernel
theorem d_jl_bitCount_59 : decode b_jl_bitCount 59 = .ok (.iand, 1) := by decide +kernel
theorem d_jl_bitCount_60 : decode b_jl_bitCount 60 = .ok (.ireturn, 1) := by decide +kernel
theorem d_dg_fits_0 : decode b_dg_fits 0 = .ok (.lload_n 2, 1) := by decide +kernel
theorem d_dg_fits_1 : decode b_dg_fits 1 = .ok (.aload_n 0, 1) := by decide +kernel
theorem d_dg_fits_2 : decode b_dg_fits 2 = .ok (.iload_n 1, 1) := by decide +kernel
theorem d_dg_fits_3 : decode b_dg_fits 3 = .ok (.invokevirtual 108, 3) := by decide +kernel
theorem d_dg_fits_6 : decode b_dg_fits 6 = .ok (.land, 1) := by decide +kernel
theorem d_dg_fits_7 : decode b_dg_fits 7 = .ok (.lstore 4, 2) := by decide +kernel
theorem d_dg_fits_9 : decode b_dg_fits 9 = .ok (.lload 4, 2) := by decide +kernel
theorem d_dg_fits_11 : decode b_dg_fits 11 = .ok (.invokestatic 46, 3) := by decide +kernel
theorem d_dg_fits_14 : decode b_dg_fits 14 = .ok (.aload_n 0, 1) := by decide +kernel
theorem d_dg_fits_15 : decode b_dg_fits 15 = .ok (.getfield 38, 3) := by decide +kernel
theorem d_dg_fits_18 : decode b_dg_fits 18 = .ok (.if_icmp .le 5, 3) := by decide +kernel
theorem d_dg_fits_21 : decode b_dg_fits 21 = .ok (.iconst 0, 1) := by decide +kernel
theorem d_dg_fits_22 : decode b_dg_fits 22 = .ok (.ireturn, 1) := by decide +kernel
theorem d_dg_fits_23 : decode b_dg_fits 23 = .ok (.iconst 0, 1) := by decide +kernel
theorem d_dg_fits_24 : decode b_dg_fits 24 = .ok (.istore 6, 2) := by decide +kernel
theorem d_dg_fits_26 : decode b_dg_fits 26 = .ok (.iload 6, 2) := by decide +kernel
theorem d_dg_fits_28 : decode b_dg_fits 28 = .ok (.aload_n 0, 1) := by decide +kernel
theorem d_dg_fits_29 : decode b_dg_fits 29 = .ok (.getfield 34, 3) := by decide +kernel
theorem d_dg_fits_32 : decode b_dg_fits 32 = .ok (.getfield 72, 3) := by decide +kernel
theorem d_dg_fits_35 : decode b_dg_fits 35 = .ok (.if_icmp .ge 39, 3) := by decide +kernel
theorem d_dg_fits_38 : decode b_dg_fits 38 = .ok (.lload 4, 2) := by decide +kernel
theorem d_dg_fits_40 : decode b_dg_fits 40 = .ok (.iload 6, 2) := by decide +kernel
theorem d_dg_fits_42 : decode b_dg_fits 42 = .ok (.invokestatic 52, 3) := by decide +kernel
theorem d_dg_fits_45 : decode b_dg_fits 45 = .ok (.ifCond .eq 23, 3) := by decide +kernel
theorem d_dg_fits_48 : decode b_dg_fits 48 = .ok (.lload_n 2, 1) := by decide +kernel
theorem d_dg_fits_49 : decode b_dg_fits 49 = .ok (.aload_n 0, 1) := by decide +kernel
theorem d_dg_fits_50 : decode b_dg_fits 50 = .ok (.iload 6, 2) := by decide +kernel
theorem d_dg_fits_52 : decode b_dg_fits 52 = .ok (.invokevirtual 108, 3) := by decide +kernel
theorem d_dg_fits_55 : decode b_dg_fits 55 = .ok (.land, 1) := by decide +kernel
theorem d_dg_fits_56 : decode b_dg_fits 56 = .ok (.invokestatic 46, 3) := by decide +kernel
theorem d_dg_fits_59 : decode b_dg_fits 59 = .ok (.aload_n 0, 1) := by decide +kernel
theorem d_dg_fits_60 : decode b_dg_fits 60 = .ok (.getfield 38, 3) := by decide +kernel
theorem d_dg_fits_63 : decode b_dg_fits 63 = .ok (.if_icmp .lt 5, 3) := by decide +kernel
theorem d_dg_fits_66 : decode b_dg_fits 66 = .ok (.iconst 0, 1) := by decide +kernel
theorem d_dg_fits_67 : decode b_dg_fits 67 = .ok (.ireturn, 1) := by decide +kernel
theorem d_dg_fits_68 : decode b_dg_fits 68 = .ok (.iinc 6 1, 3) := by decide +kernel
theorem d_dg_fits_71 : decode b_dg_fits 71 = .ok (.goto (-45), 3) := by decide +kernel
theorem d_dg_fits_74 : decode b_dg_fits 74 = .ok (.iconst 1, 1) := by decide +kernel
theorem d_dg_fits_75 : decode b_dg_fits 75 = .ok (.ireturn, 1) := by decide +kernel
theorem d_dg_settle_0 : decode b_dg_settle 0 = .ok (.aload_n 0, 1) := by decide +kernel
theorem d_dg_settle_1 : decode b_dg_settle 1 = .ok (.lload_n 2, 1) := by decide +kernel
theorem d_dg_settle_2 : decode b_dg_settle 2 = .ok (.invokevirtual 101, 3) := by decide +kernel
theorem d_dg_settle_5 : decode b_dg_settle 5 = .ok (.istore 4, 2) := by decide +kernel
theorem d_dg_settle_7 : decode b_dg_settle 7 = .ok (.aload_n 0, 1) := by decide +kernel
theorem d_dg_settle_8 : decode b_dg_settle 8 = .ok (.getfield 25, 3) := by decide +kernel
theorem d_dg_settle_11 : decode b_dg_settle 11 = .ok (.iload_n 1, 1) := by decide +kernel
theorem d_dg_settle_12 : decode b_dg_settle 12 = .ok (.iload 4, 2) := by decide +kernel
theorem d_dg_settle_14 : decode b_dg_settle 14 = .ok (.iastore, 1) := by decide +kernel
theorem d_dg_settle_15 : decode b_dg_settle 15 = .ok (.iload 4, 2) := by decide +kernel
theorem d_dg_settle_17 : decode b_dg_settle 17 = .ok (.iconst (-1), 1) := by decide +kernel
theorem d_dg_settle_18 : decode b_dg_settle 18 = .ok (.if_icmp .ne 4, 3) := by decide +kernel
theorem d_dg_settle_21 : decode b_dg_settle 21 = .ok (.return_, 1) := by decide +kernel
theorem d_dg_settle_22 : decode b_dg_settle 22 = .ok (.aload_n 0, 1) := by decide +kernel
theorem d_dg_settle_23 : decode b_dg_settle 23 = .ok (.getfield 9, 3) := by decide +kernel
theorem d_dg_settle_26 : decode b_dg_settle 26 = .ok (.iload_n 1, 1) := by decide +kernel
theorem d_dg_settle_27 : decode b_dg_settle 27 = .ok (.lload_n 2, 1) := by decide +kernel
theorem d_dg_settle_28 : decode b_dg_settle 28 = .ok (.aload_n 0, 1) := by decide +kernel
theorem d_dg_settle_29 : decode b_dg_settle 29 = .ok (.lload_n 2, 1) := by decide +kernel
theorem d_dg_settle_30 : decode b_dg_settle 30 = .ok (.invokevirtual 64, 3) := by decide +kernel
theorem d_dg_settle_33 : decode b_dg_settle 33 = .ok (.lor, 1) := by decide +kernel
theorem d_dg_settle_34 : decode b_dg_settle 34 = .ok (.lastore, 1) := by decide +kernel
theorem d_dg_settle_35 : decode b_dg_settle 35 = .ok (.aload_n 0, 1) := by decide +kernel
theorem d_dg_settle_36 : decode b_dg_settle 36 = .ok (.getfield 18, 3) := by decide +kernel
theorem d_dg_settle_39 : decode b_dg_settle 39 = .ok (.iload 4, 2) := by decide +kernel
theorem d_dg_settle_41 : decode b_dg_settle 41 = .ok (.laload, 1) := by decide +kernel
theorem d_dg_settle_42 : decode b_dg_settle 42 = .ok (.iload 4, 2) := by decide +kernel
theorem d_dg_settle_44 : decode b_dg_settle 44 = .ok (.invokestatic 79, 3) := by decide +kernel
theorem d_dg_settle_47 : decode b_dg_settle 47 = .ok (.lor, 1) := by decide +kernel
theorem d_dg_settle_48 : decode b_dg_settle 48 = .ok (.lstore 5, 2) := by decide +kernel
theorem d_dg_settle_50 : decode b_dg_settle 50 = .ok (.aload_n 0, 1) := by decide +kernel
theorem d_dg_settle_51 : decode b_dg_settle 51 = .ok (.aload_n 0, 1) := by decide +kernel
theorem d_dg_settle_52 : decode b_dg_settle 52 = .ok (.iload_n 1, 1) := by decide +kernel
theorem d_dg_settle_53 : decode b_dg_settle 53 = .ok (.invokevirtual 89, 3) := by decide +kernel
theorem d_dg_settle_56 : decode b_dg_settle 56 = .ok (.invokevirtual 92, 3) := by decide +kernel
theorem d_dg_settle_59 : decode b_dg_settle 59 = .ok (.istore 7, 2) := by decide +kernel
theorem d_dg_settle_61 : decode b_dg_settle 61 = .ok (.iconst 0, 1) := by decide +kernel
theorem d_dg_settle_62 : decode b_dg_settle 62 = .ok (.istore 8, 2) := by decide +kernel
theorem d_dg_settle_64 : decode b_dg_settle 64 = .ok (.iload 8, 2) := by decide +kernel
theorem d_dg_settle_66 : decode b_dg_settle 66 = .ok (.iload 7, 2) := by decide +kernel
theorem d_dg_settle_68 : decode b_dg_settle 68 = .ok (.if_icmp .ge 40, 3) := by decide +kernel
theorem d_dg_settle_71 : decode b_dg_settle 71 = .ok (.aload_n 0, 1) := by decide +kernel
theorem d_dg_settle_72 : decode b_dg_settle 72 = .ok (.aload_n 0, 1) := by decide +kernel
theorem d_dg_settle_73 : decode b_dg_settle 73 = .ok (.getfield 31, 3) := by decide +kernel
theorem d_dg_settle_76 : decode b_dg_settle 76 = .ok (.iload 8, 2) := by decide +kernel
theorem d_dg_settle_78 : decode b_dg_settle 78 = .ok (.iaload, 1) := by decide +kernel
theorem d_dg_settle_79 : decode b_dg_settle 79 = .ok (.lload 5, 2) := by decide +kernel
theorem d_dg_settle_81 : decode b_dg_settle 81 = .ok (.invokevirtual 104, 3) := by decide +kernel
theorem d_dg_settle_84 : decode b_dg_settle 84 = .ok (.ifCond .eq 18, 3) := by decide +kernel
theorem d_dg_settle_87 : decode b_dg_settle 87 = .ok (.lload 5, 2) := by decide +kernel
theorem d_dg_settle_89 : decode b_dg_settle 89 = .ok (.aload_n 0, 1) := by decide +kernel
theorem d_dg_settle_90 : decode b_dg_settle 90 = .ok (.getfield 31, 3) := by decide +kernel
theorem d_dg_settle_93 : decode b_dg_settle 93 = .ok (.iload 8, 2) := by decide +kernel
theorem d_dg_settle_95 : decode b_dg_settle 95 = .ok (.iaload, 1) := by decide +kernel
theorem d_dg_settle_96 : decode b_dg_settle 96 = .ok (.invokestatic 79, 3) := by decide +kernel
theorem d_dg_settle_99 : decode b_dg_settle 99 = .ok (.lor, 1) := by decide +kernel
theorem d_dg_settle_100 : decode b_dg_settle 100 = .ok (.lstore 5, 2) := by decide +kernel
theorem d_dg_settle_102 : decode b_dg_settle 102 = .ok (.iinc 8 1, 3) := by decide +kernel
theorem d_dg_settle_105 : decode b_dg_settle 105 = .ok (.goto (-41), 3) := by decide +kernel
theorem d_dg_settle_108 : decode b_dg_settle 108 = .ok (.aload_n 0, 1) := by decide +kernel
theorem d_dg_settle_109 : decode b_dg_settle 109 = .ok (.getfield 18, 3) := by decide +kernel
theorem d_dg_settle_112 : decode b_dg_settle 112 = .ok (.iload_n 1, 1) := by decide +kernel
