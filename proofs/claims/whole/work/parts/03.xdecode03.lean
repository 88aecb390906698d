theorem d_bm_slotOf_28 : decode b_bm_slotOf 28 = .ok (.if_icmp .lt 22, 3) := by decide +kernel
theorem d_bm_slotOf_31 : decode b_bm_slotOf 31 = .ok (.iload_n 0, 1) := by decide +kernel
theorem d_bm_slotOf_32 : decode b_bm_slotOf 32 = .ok (.sipush 160, 3) := by decide +kernel
theorem d_bm_slotOf_35 : decode b_bm_slotOf 35 = .ok (.if_icmp .ge 15, 3) := by decide +kernel
theorem d_bm_slotOf_38 : decode b_bm_slotOf 38 = .ok (.iload_n 1, 1) := by decide +kernel
theorem d_bm_slotOf_39 : decode b_bm_slotOf 39 = .ok (.ifCond .ne 11, 3) := by decide +kernel
theorem d_bm_slotOf_42 : decode b_bm_slotOf 42 = .ok (.bipush 80, 2) := by decide +kernel
theorem d_bm_slotOf_44 : decode b_bm_slotOf 44 = .ok (.iload_n 0, 1) := by decide +kernel
theorem d_bm_slotOf_45 : decode b_bm_slotOf 45 = .ok (.iadd, 1) := by decide +kernel
theorem d_bm_slotOf_46 : decode b_bm_slotOf 46 = .ok (.bipush 100, 2) := by decide +kernel
theorem d_bm_slotOf_48 : decode b_bm_slotOf 48 = .ok (.isub, 1) := by decide +kernel
theorem d_bm_slotOf_49 : decode b_bm_slotOf 49 = .ok (.ireturn, 1) := by decide +kernel
theorem d_bm_slotOf_50 : decode b_bm_slotOf 50 = .ok (.iconst (-1), 1) := by decide +kernel
theorem d_bm_slotOf_51 : decode b_bm_slotOf 51 = .ok (.ireturn, 1) := by decide +kernel
theorem d_tr_has_0 : decode b_tr_has 0 = .ok (.iload_n 1, 1) := by decide +kernel
theorem d_tr_has_1 : decode b_tr_has 1 = .ok (.ifCond .lt 15, 3) := by decide +kernel
theorem d_tr_has_4 : decode b_tr_has 4 = .ok (.iload_n 1, 1) := by decide +kernel
theorem d_tr_has_5 : decode b_tr_has 5 = .ok (.aload_n 0, 1) := by decide +kernel
theorem d_tr_has_6 : decode b_tr_has 6 = .ok (.getfield 42, 3) := by decide +kernel
theorem d_tr_has_9 : decode b_tr_has 9 = .ok (.if_icmp .ge 7, 3) := by decide +kernel
theorem d_tr_has_12 : decode b_tr_has 12 = .ok (.iconst 1, 1) := by decide +kernel
theorem d_tr_has_13 : decode b_tr_has 13 = .ok (.goto 4, 3) := by decide +kernel
theorem d_tr_has_16 : decode b_tr_has 16 = .ok (.iconst 0, 1) := by decide +kernel
theorem d_tr_has_17 : decode b_tr_has 17 = .ok (.ireturn, 1) := by decide +kernel
theorem d_bl_has_0 : decode b_bl_has 0 = .ok (.iload_n 1, 1) := by decide +kernel
theorem d_bl_has_1 : decode b_bl_has 1 = .ok (.ifCond .lt 15, 3) := by decide +kernel
theorem d_bl_has_4 : decode b_bl_has 4 = .ok (.iload_n 1, 1) := by decide +kernel
theorem d_bl_has_5 : decode b_bl_has 5 = .ok (.aload_n 0, 1) := by decide +kernel
theorem d_bl_has_6 : decode b_bl_has 6 = .ok (.getfield 35, 3) := by decide +kernel
theorem d_bl_has_9 : decode b_bl_has 9 = .ok (.if_icmp .ge 7, 3) := by decide +kernel
theorem d_bl_has_12 : decode b_bl_has 12 = .ok (.iconst 1, 1) := by decide +kernel
theorem d_bl_has_13 : decode b_bl_has 13 = .ok (.goto 4, 3) := by decide +kernel
theorem d_bl_has_16 : decode b_bl_has 16 = .ok (.iconst 0, 1) := by decide +kernel
theorem d_bl_has_17 : decode b_bl_has 17 = .ok (.ireturn, 1) := by decide +kernel
theorem d_bm_isSource_0 : decode b_bm_isSource 0 = .ok (.iload_n 1, 1) := by decide +kernel
theorem d_bm_isSource_1 : decode b_bm_isSource 1 = .ok (.bipush 100, 2) := by decide +kernel
theorem d_bm_isSource_3 : decode b_bm_isSource 3 = .ok (.if_icmp .ge 14, 3) := by decide +kernel
theorem d_bm_isSource_6 : decode b_bm_isSource 6 = .ok (.aload_n 0, 1) := by decide +kernel
theorem d_bm_isSource_7 : decode b_bm_isSource 7 = .ok (.getfield 12, 3) := by decide +kernel
theorem d_bm_isSource_10 : decode b_bm_isSource 10 = .ok (.iload_n 1, 1) := by decide +kernel
theorem d_bm_isSource_11 : decode b_bm_isSource 11 = .ok (.invokevirtual 108, 3) := by decide +kernel
theorem d_bm_isSource_14 : decode b_bm_isSource 14 = .ok (.goto 14, 3) := by decide +kernel
theorem d_bm_isSource_17 : decode b_bm_isSource 17 = .ok (.aload_n 0, 1) := by decide +kernel
theorem d_bm_isSource_18 : decode b_bm_isSource 18 = .ok (.getfield 19, 3) := by decide +kernel
theorem d_bm_isSource_21 : decode b_bm_isSource 21 = .ok (.iload_n 1, 1) := by decide +kernel
theorem d_bm_isSource_22 : decode b_bm_isSource 22 = .ok (.bipush 100, 2) := by decide +kernel
theorem d_bm_isSource_24 : decode b_bm_isSource 24 = .ok (.isub, 1) := by decide +kernel
theorem d_bm_isSource_25 : decode b_bm_isSource 25 = .ok (.invokevirtual 99, 3) := by decide +kernel
theorem d_bm_isSource_28 : decode b_bm_isSource 28 = .ok (.ireturn, 1) := by decide +kernel
theorem d_bm_fingerprintOf_0 : decode b_bm_fingerprintOf 0 = .ok (.iload_n 1, 1) := by decide +kernel
theorem d_bm_fingerprintOf_1 : decode b_bm_fingerprintOf 1 = .ok (.bipush 100, 2) := by decide +kernel
theorem d_bm_fingerprintOf_3 : decode b_bm_fingerprintOf 3 = .ok (.if_icmp .ge 15, 3) := by decide +kernel
theorem d_bm_fingerprintOf_6 : decode b_bm_fingerprintOf 6 = .ok (.aload_n 0, 1) := by decide +kernel
theorem d_bm_fingerprintOf_7 : decode b_bm_fingerprintOf 7 = .ok (.getfield 12, 3) := by decide +kernel
theorem d_bm_fingerprintOf_10 : decode b_bm_fingerprintOf 10 = .ok (.getfield 232, 3) := by decide +kernel
theorem d_bm_fingerprintOf_13 : decode b_bm_fingerprintOf 13 = .ok (.iload_n 1, 1) := by decide +kernel
theorem d_bm_fingerprintOf_14 : decode b_bm_fingerprintOf 14 = .ok (.iaload, 1) := by decide +kernel
theorem d_bm_fingerprintOf_15 : decode b_bm_fingerprintOf 15 = .ok (.goto 15, 3) := by decide +kernel
theorem d_bm_fingerprintOf_18 : decode b_bm_fingerprintOf 18 = .ok (.aload_n 0, 1) := by decide +kernel
theorem d_bm_fingerprintOf_19 : decode b_bm_fingerprintOf 19 = .ok (.getfield 19, 3) := by decide +kernel
theorem d_bm_fingerprintOf_22 : decode b_bm_fingerprintOf 22 = .ok (.getfield 176, 3) := by decide +kernel
theorem d_bm_fingerprintOf_25 : decode b_bm_fingerprintOf 25 = .ok (.iload_n 1, 1) := by decide +kernel
theorem d_bm_fingerprintOf_26 : decode b_bm_fingerprintOf 26 = .ok (.bipush 100, 2) := by decide +kernel
theorem d_bm_fingerprintOf_28 : decode b_bm_fingerprintOf 28 = .ok (.isub, 1) := by decide +kernel
theorem d_bm_fingerprintOf_29 : decode b_bm_fingerprintOf 29 = .ok (.iaload, 1) := by decide +kernel
theorem d_bm_fingerprintOf_30 : decode b_bm_fingerprintOf 30 = .ok (.ireturn, 1) := by decide +kernel
theorem d_bm_lockFor_0 : decode b_bm_lockFor 0 = .ok (.bipush 7, 2) := by decide +kernel
theorem d_bm_lockFor_2 : decode b_bm_lockFor 2 = .ok (.iload_n 0, 1) := by decide +kernel
theorem d_bm_lockFor_3 : decode b_bm_lockFor 3 = .ok (.invokestatic 263, 3) := by decide +kernel
theorem d_bm_lockFor_6 : decode b_bm_lockFor 6 = .ok (.ireturn, 1) := by decide +kernel
theorem d_tr_putInput_0 : decode b_tr_putInput 0 = .ok (.aload_n 0, 1) := by decide +kernel
theorem d_tr_putInput_1 : decode b_tr_putInput 1 = .ok (.getfield 15, 3) := by decide +kernel
theorem d_tr_putInput_4 : decode b_tr_putInput 4 = .ok (.aload_n 0, 1) := by decide +kernel
theorem d_tr_putInput_5 : decode b_tr_putInput 5 = .ok (.getfield 42, 3) := by decide +kernel
theorem d_tr_putInput_8 : decode b_tr_putInput 8 = .ok (.iaload, 1) := by decide +kernel
theorem d_tr_putInput_9 : decode b_tr_putInput 9 = .ok (.iconst 2, 1) := by decide +kernel
theorem d_tr_putInput_10 : decode b_tr_putInput 10 = .ok (.if_icmp .ne 5, 3) := by decide +kernel
theorem d_tr_putInput_13 : decode b_tr_putInput 13 = .ok (.iconst 0, 1) := by decide +kernel
theorem d_tr_putInput_14 : decode b_tr_putInput 14 = .ok (.ireturn, 1) := by decide +kernel
theorem d_tr_putInput_15 : decode b_tr_putInput 15 = .ok (.aload_n 0, 1) := by decide +kernel
theorem d_tr_putInput_16 : decode b_tr_putInput 16 = .ok (.getfield 42, 3) := by decide +kernel
theorem d_tr_putInput_19 : decode b_tr_putInput 19 = .ok (.iconst 2, 1) := by decide +kernel
theorem d_tr_putInput_20 : decode b_tr_putInput 20 = .ok (.imul, 1) := by decide +kernel
theorem d_tr_putInput_21 : decode b_tr_putInput 21 = .ok (.aload_n 0, 1) := by decide +kernel
theorem d_tr_putInput_22 : decode b_tr_putInput 22 = .ok (.getfield 15, 3) := by decide +kernel
theorem d_tr_putInput_25 : decode b_tr_putInput 25 = .ok (.aload_n 0, 1) := by decide +kernel
theorem d_tr_putInput_26 : decode b_tr_putInput 26 = .ok (.getfield 42, 3) := by decide +kernel
theorem d_tr_putInput_29 : decode b_tr_putInput 29 = .ok (.iaload, 1) := by decide +kernel
theorem d_tr_putInput_30 : decode b_tr_putInput 30 = .ok (.iadd, 1) := by decide +kernel
theorem d_tr_putInput_31 : decode b_tr_putInput 31 = .ok (.istore 5, 2) := by decide +kernel
theorem d_tr_putInput_33 : decode b_tr_putInput 33 = .ok (.aload_n 0, 1) := by decide +kernel
theorem d_tr_putInput_34 : decode b_tr_putInput 34 = .ok (.getfield 18, 3) := by decide +kernel
theorem d_tr_putInput_37 : decode b_tr_putInput 37 = .ok (.iload 5, 2) := by decide +kernel
theorem d_tr_putInput_39 : decode b_tr_putInput 39 = .ok (.iload_n 1, 1) := by decide +kernel
theorem d_tr_putInput_40 : decode b_tr_putInput 40 = .ok (.iastore, 1) := by decide +kernel
theorem d_tr_putInput_41 : decode b_tr_putInput 41 = .ok (.aload_n 0, 1) := by decide +kernel
theorem d_tr_putInput_42 : decode b_tr_putInput 42 = .ok (.getfield 21, 3) := by decide +kernel
theorem d_tr_putInput_45 : decode b_tr_putInput 45 = .ok (.iload 5, 2) := by decide +kernel
theorem d_tr_putInput_47 : decode b_tr_putInput 47 = .ok (.iload_n 2, 1) := by decide +kernel
theorem d_tr_putInput_48 : decode b_tr_putInput 48 = .ok (.iastore, 1) := by decide +kernel
theorem d_tr_putInput_49 : decode b_tr_putInput 49 = .ok (.aload_n 0, 1) := by decide +kernel
theorem d_tr_putInput_50 : decode b_tr_putInput 50 = .ok (.getfield 24, 3) := by decide +kernel
theorem d_tr_putInput_53 : decode b_tr_putInput 53 = .ok (.iload 5, 2) := by decide +kernel
theorem d_tr_putInput_55 : decode b_tr_putInput 55 = .ok (.iload_n 3, 1) := by decide +kernel
theorem d_tr_putInput_56 : decode b_tr_putInput 56 = .ok (.iastore, 1) := by decide +kernel
theorem d_tr_putInput_57 : decode b_tr_putInput 57 = .ok (.aload_n 0, 1) := by decide +kernel
theorem d_tr_putInput_58 : decode b_tr_putInput 58 = .ok (.getfield 27, 3) := by decide +kernel
theorem d_tr_putInput_61 : decode b_tr_putInput 61 = .ok (.iload 5, 2) := by decide +kernel
theorem d_tr_putInput_63 : decode b_tr_putInput 63 = .ok (.iload 4, 2) := by decide +kernel
theorem d_tr_putInput_65 : decode b_tr_putInput 65 = .ok (.iastore, 1) := by decide +kernel
theorem d_tr_putInput_66 : decode b_tr_putInput 66 = .ok (.aload_n 0, 1) := by decide +kernel
theorem d_tr_putInput_67 : decode b_tr_putInput 67 = .ok (.getfield 30, 3) := by decide +kernel
theorem d_tr_putInput_70 : decode b_tr_putInput 70 = .ok (.iload 5, 2) := by decide +kernel
theorem d_tr_putInput_72 : decode b_tr_putInput 72 = .ok (.iload 4, 2) := by decide +kernel
theorem d_tr_putInput_74 : decode b_tr_putInput 74 = .ok (.invokestatic 46, 3) := by decide +kernel
theorem d_tr_putInput_77 : decode b_tr_putInput 77 = .ok (.iastore, 1) := by decide +kernel
theorem d_tr_putInput_78 : decode b_tr_putInput 78 = .ok (.aload_n 0, 1) := by decide +kernel
theorem d_tr_putInput_79 : decode b_tr_putInput 79 = .ok (.getfield 15, 3) := by decide +kernel
theorem d_tr_putInput_82 : decode b_tr_putInput 82 = .ok (.aload_n 0, 1) := by decide +kernel
theorem d_tr_putInput_83 : decode b_tr_putInput 83 = .ok (.getfield 42, 3) := by decide +kernel
theorem d_tr_putInput_86 : decode b_tr_putInput 86 = .ok (.dup2, 1) := by decide +kernel
theorem d_tr_putInput_87 : decode b_tr_putInput 87 = .ok (.iaload, 1) := by decide +kernel
theorem d_tr_putInput_88 : decode b_tr_putInput 88 = .ok (.iconst 1, 1) := by decide +kernel
theorem d_tr_putInput_89 : decode b_tr_putInput 89 = .ok (.iadd, 1) := by decide +kernel
theorem d_tr_putInput_90 : decode b_tr_putInput 90 = .ok (.iastore, 1) := by decide +kernel
theorem d_tr_putInput_91 : decode b_tr_putInput 91 = .ok (.iconst 1, 1) := by decide +kernel
theorem d_tr_putInput_92 : decode b_tr_putInput 92 = .ok (.ireturn, 1) := by decide +kernel
theorem d_bm_input_0 : decode b_bm_input 0 = .ok (.iload_n 1, 1) := by decide +kernel
theorem d_bm_input_1 : decode b_bm_input 1 = .ok (.iload_n 2, 1) := by decide +kernel
theorem d_bm_input_2 : decode b_bm_input 2 = .ok (.invokestatic 72, 3) := by decide +kernel
theorem d_bm_input_5 : decode b_bm_input 5 = .ok (.istore 4, 2) := by decide +kernel
theorem d_bm_input_7 : decode b_bm_input 7 = .ok (.iload 4, 2) := by decide +kernel
theorem d_bm_input_9 : decode b_bm_input 9 = .ok (.iconst (-1), 1) := by decide +kernel
theorem d_bm_input_10 : decode b_bm_input 10 = .ok (.if_icmp .eq 11, 3) := by decide +kernel
theorem d_bm_input_13 : decode b_bm_input 13 = .ok (.aload_n 0, 1) := by decide +kernel
theorem d_bm_input_14 : decode b_bm_input 14 = .ok (.iload_n 1, 1) := by decide +kernel
theorem d_bm_input_15 : decode b_bm_input 15 = .ok (.invokevirtual 76, 3) := by decide +kernel
theorem d_bm_input_18 : decode b_bm_input 18 = .ok (.ifCond .ne 5, 3) := by decide +kernel
theorem d_bm_input_21 : decode b_bm_input 21 = .ok (.iconst 0, 1) := by decide +kernel
theorem d_bm_input_22 : decode b_bm_input 22 = .ok (.ireturn, 1) := by decide +kernel
theorem d_bm_input_23 : decode b_bm_input 23 = .ok (.aload_n 0, 1) := by decide +kernel
theorem d_bm_input_24 : decode b_bm_input 24 = .ok (.getfield 12, 3) := by decide +kernel
theorem d_bm_input_27 : decode b_bm_input 27 = .ok (.iload 4, 2) := by decide +kernel
theorem d_bm_input_29 : decode b_bm_input 29 = .ok (.aload_n 0, 1) := by decide +kernel
theorem d_bm_input_30 : decode b_bm_input 30 = .ok (.iload_n 1, 1) := by decide +kernel
theorem d_bm_input_31 : decode b_bm_input 31 = .ok (.invokevirtual 80, 3) := by decide +kernel
theorem d_bm_input_34 : decode b_bm_input 34 = .ok (.iload_n 2, 1) := by decide +kernel
theorem d_bm_input_35 : decode b_bm_input 35 = .ok (.iload_n 3, 1) := by decide +kernel
theorem d_bm_input_36 : decode b_bm_input 36 = .ok (.invokevirtual 84, 3) := by decide +kernel
theorem d_bm_input_39 : decode b_bm_input 39 = .ok (.ireturn, 1) := by decide +kernel
theorem d_tr_putOutput_0 : decode b_tr_putOutput 0 = .ok (.aload_n 0, 1) := by decide +kernel
theorem d_tr_putOutput_1 : decode b_tr_putOutput 1 = .ok (.getfield 33, 3) := by decide +kernel
theorem d_tr_putOutput_4 : decode b_tr_putOutput 4 = .ok (.aload_n 0, 1) := by decide +kernel
theorem d_tr_putOutput_5 : decode b_tr_putOutput 5 = .ok (.getfield 42, 3) := by decide +kernel
theorem d_tr_putOutput_8 : decode b_tr_putOutput 8 = .ok (.iaload, 1) := by decide +kernel
theorem d_tr_putOutput_9 : decode b_tr_putOutput 9 = .ok (.iconst 2, 1) := by decide +kernel
theorem d_tr_putOutput_10 : decode b_tr_putOutput 10 = .ok (.if_icmp .ne 5, 3) := by decide +kernel
theorem d_tr_putOutput_13 : decode b_tr_putOutput 13 = .ok (.iconst 0, 1) := by decide +kernel
theorem d_tr_putOutput_14 : decode b_tr_putOutput 14 = .ok (.ireturn, 1) := by decide +kernel
theorem d_tr_putOutput_15 : decode b_tr_putOutput 15 = .ok (.aload_n 0, 1) := by decide +kernel
theorem d_tr_putOutput_16 : decode b_tr_putOutput 16 = .ok (.getfield 42, 3) := by decide +kernel
theorem d_tr_putOutput_19 : decode b_tr_putOutput 19 = .ok (.iconst 2, 1) := by decide +kernel
theorem d_tr_putOutput_20 : decode b_tr_putOutput 20 = .ok (.imul, 1) := by decide +kernel
theorem d_tr_putOutput_21 : decode b_tr_putOutput 21 = .ok (.aload_n 0, 1) := by decide +kernel
theorem d_tr_putOutput_22 : decode b_tr_putOutput 22 = .ok (.getfield 33, 3) := by decide +kernel
theorem d_tr_putOutput_25 : decode b_tr_putOutput 25 = .ok (.aload_n 0, 1) := by decide +kernel
theorem d_tr_putOutput_26 : decode b_tr_putOutput 26 = .ok (.getfield 42, 3) := by decide +kernel
theorem d_tr_putOutput_29 : decode b_tr_putOutput 29 = .ok (.iaload, 1) := by decide +kernel
theorem d_tr_putOutput_30 : decode b_tr_putOutput 30 = .ok (.iadd, 1) := by decide +kernel
theorem d_tr_putOutput_31 : decode b_tr_putOutput 31 = .ok (.istore_n 3, 1) := by decide +kernel
theorem d_tr_putOutput_32 : decode b_tr_putOutput 32 = .ok (.aload_n 0, 1) := by decide +kernel
theorem d_tr_putOutput_33 : decode b_tr_putOutput 33 = .ok (.getfield 36, 3) := by decide +kernel
theorem d_tr_putOutput_36 : decode b_tr_putOutput 36 = .ok (.iload_n 3, 1) := by decide +kernel
theorem d_tr_putOutput_37 : decode b_tr_putOutput 37 = .ok (.iload_n 1, 1) := by decide +kernel
theorem d_tr_putOutput_38 : decode b_tr_putOutput 38 = .ok (.iastore, 1) := by decide +kernel
theorem d_tr_putOutput_39 : decode b_tr_putOutput 39 = .ok (.aload_n 0, 1) := by decide +kernel
theorem d_tr_putOutput_40 : decode b_tr_putOutput 40 = .ok (.getfield 39, 3) := by decide +kernel
theorem d_tr_putOutput_43 : decode b_tr_putOutput 43 = .ok (.iload_n 3, 1) := by decide +kernel
theorem d_tr_putOutput_44 : decode b_tr_putOutput 44 = .ok (.iload_n 2, 1) := by decide +kernel
theorem d_tr_putOutput_45 : decode b_tr_putOutput 45 = .ok (.iastore, 1) := by decide +kernel
theorem d_tr_putOutput_46 : decode b_tr_putOutput 46 = .ok (.aload_n 0, 1) := by decide +kernel
theorem d_tr_putOutput_47 : decode b_tr_putOutput 47 = .ok (.getfield 33, 3) := by decide +kernel
theorem d_tr_putOutput_50 : decode b_tr_putOutput 50 = .ok (.aload_n 0, 1) := by decide +kernel
theorem d_tr_putOutput_51 : decode b_tr_putOutput 51 = .ok (.getfield 42, 3) := by decide +kernel
theorem d_tr_putOutput_54 : decode b_tr_putOutput 54 = .ok (.dup2, 1) := by decide +kernel
theorem d_tr_putOutput_55 : decode b_tr_putOutput 55 = .ok (.iaload, 1) := by decide +kernel
theorem d_tr_putOutput_56 : decode b_tr_putOutput 56 = .ok (.iconst 1, 1) := by decide +kernel
theorem d_tr_putOutput_57 : decode b_tr_putOutput 57 = .ok (.iadd, 1) := by decide +kernel
theorem d_tr_putOutput_58 : decode b_tr_putOutput 58 = .ok (.iastore, 1) := by decide +kernel
theorem d_tr_putOutput_59 : decode b_tr_putOutput 59 = .ok (.iconst 1, 1) := by decide +kernel
theorem d_tr_putOutput_60 : decode b_tr_putOutput 60 = .ok (.ireturn, 1) := by decide +kernel
theorem d_bm_output_0 : decode b_bm_output 0 = .ok (.iload_n 2, 1) := by decide +kernel
theorem d_bm_output_1 : decode b_bm_output 1 = .ok (.ifCond .lt 10, 3) := by decide +kernel
theorem d_bm_output_4 : decode b_bm_output 4 = .ok (.iload_n 2, 1) := by decide +kernel
theorem d_bm_output_5 : decode b_bm_output 5 = .ok (.sipush 1000, 3) := by decide +kernel
theorem d_bm_output_8 : decode b_bm_output 8 = .ok (.if_icmp .le 5, 3) := by decide +kernel
theorem d_bm_output_11 : decode b_bm_output 11 = .ok (.iconst 0, 1) := by decide +kernel
theorem d_bm_output_12 : decode b_bm_output 12 = .ok (.ireturn, 1) := by decide +kernel
theorem d_bm_output_13 : decode b_bm_output 13 = .ok (.aload_n 0, 1) := by decide +kernel
theorem d_bm_output_14 : decode b_bm_output 14 = .ok (.getfield 12, 3) := by decide +kernel
theorem d_bm_output_17 : decode b_bm_output 17 = .ok (.iload_n 1, 1) := by decide +kernel
theorem d_bm_output_18 : decode b_bm_output 18 = .ok (.invokestatic 88, 3) := by decide +kernel
theorem d_bm_output_21 : decode b_bm_output 21 = .ok (.iload_n 2, 1) := by decide +kernel
theorem d_bm_output_22 : decode b_bm_output 22 = .ok (.invokevirtual 91, 3) := by decide +kernel
theorem d_bm_output_25 : decode b_bm_output 25 = .ok (.ireturn, 1) := by decide +kernel
theorem d_tr_draftId_0 : decode b_tr_draftId 0 = .ok (.bipush 11, 2) := by decide +kernel
theorem d_tr_draftId_2 : decode b_tr_draftId 2 = .ok (.istore_n 1, 1) := by decide +kernel
theorem d_tr_draftId_3 : decode b_tr_draftId 3 = .ok (.aload_n 0, 1) := by decide +kernel
theorem d_tr_draftId_4 : decode b_tr_draftId 4 = .ok (.getfield 42, 3) := by decide +kernel
theorem d_tr_draftId_7 : decode b_tr_draftId 7 = .ok (.iconst 2, 1) := by decide +kernel
theorem d_tr_draftId_8 : decode b_tr_draftId 8 = .ok (.imul, 1) := by decide +kernel
theorem d_tr_draftId_9 : decode b_tr_draftId 9 = .ok (.istore_n 2, 1) := by decide +kernel
theorem d_tr_draftId_10 : decode b_tr_draftId 10 = .ok (.iload_n 2, 1) := by decide +kernel
theorem d_tr_draftId_11 : decode b_tr_draftId 11 = .ok (.istore_n 3, 1) := by decide +kernel
theorem d_tr_draftId_12 : decode b_tr_draftId 12 = .ok (.iload_n 3, 1) := by decide +kernel
theorem d_tr_draftId_13 : decode b_tr_draftId 13 = .ok (.iload_n 2, 1) := by decide +kernel
theorem d_tr_draftId_14 : decode b_tr_draftId 14 = .ok (.aload_n 0, 1) := by decide +kernel
theorem d_tr_draftId_15 : decode b_tr_draftId 15 = .ok (.getfield 15, 3) := by decide +kernel
theorem d_tr_draftId_18 : decode b_tr_draftId 18 = .ok (.aload_n 0, 1) := by decide +kernel
theorem d_tr_draftId_19 : decode b_tr_draftId 19 = .ok (.getfield 42, 3) := by decide +kernel
theorem d_tr_draftId_22 : decode b_tr_draftId 22 = .ok (.iaload, 1) := by decide +kernel
theorem d_tr_draftId_23 : decode b_tr_draftId 23 = .ok (.iadd, 1) := by decide +kernel
theorem d_tr_draftId_24 : decode b_tr_draftId 24 = .ok (.if_icmp .ge 38, 3) := by decide +kernel
theorem d_tr_draftId_27 : decode b_tr_draftId 27 = .ok (.iload_n 1, 1) := by decide +kernel
theorem d_tr_draftId_28 : decode b_tr_draftId 28 = .ok (.aload_n 0, 1) := by decide +kernel
theorem d_tr_draftId_29 : decode b_tr_draftId 29 = .ok (.getfield 21, 3) := by decide +kernel
theorem d_tr_draftId_32 : decode b_tr_draftId 32 = .ok (.iload_n 3, 1) := by decide +kernel
theorem d_tr_draftId_33 : decode b_tr_draftId 33 = .ok (.iaload, 1) := by decide +kernel
theorem d_tr_draftId_34 : decode b_tr_draftId 34 = .ok (.invokestatic 54, 3) := by decide +kernel
theorem d_tr_draftId_37 : decode b_tr_draftId 37 = .ok (.aload_n 0, 1) := by decide +kernel
theorem d_tr_draftId_38 : decode b_tr_draftId 38 = .ok (.getfield 24, 3) := by decide +kernel
theorem d_tr_draftId_41 : decode b_tr_draftId 41 = .ok (.iload_n 3, 1) := by decide +kernel
theorem d_tr_draftId_42 : decode b_tr_draftId 42 = .ok (.iaload, 1) := by decide +kernel
theorem d_tr_draftId_43 : decode b_tr_draftId 43 = .ok (.invokestatic 54, 3) := by decide +kernel
theorem d_tr_draftId_46 : decode b_tr_draftId 46 = .ok (.aload_n 0, 1) := by decide +kernel
theorem d_tr_draftId_47 : decode b_tr_draftId 47 = .ok (.getfield 27, 3) := by decide +kernel
theorem d_tr_draftId_50 : decode b_tr_draftId 50 = .ok (.iload_n 3, 1) := by decide +kernel
theorem d_tr_draftId_51 : decode b_tr_draftId 51 = .ok (.iaload, 1) := by decide +kernel
theorem d_tr_draftId_52 : decode b_tr_draftId 52 = .ok (.invokestatic 54, 3) := by decide +kernel
theorem d_tr_draftId_55 : decode b_tr_draftId 55 = .ok (.istore_n 1, 1) := by decide +kernel
theorem d_tr_draftId_56 : decode b_tr_draftId 56 = .ok (.iinc 3 1, 3) := by decide +kernel
theorem d_tr_draftId_59 : decode b_tr_draftId 59 = .ok (.goto (-47), 3) := by decide +kernel
theorem d_tr_draftId_62 : decode b_tr_draftId 62 = .ok (.aload_n 0, 1) := by decide +kernel
theorem d_tr_draftId_63 : decode b_tr_draftId 63 = .ok (.getfield 42, 3) := by decide +kernel
theorem d_tr_draftId_66 : decode b_tr_draftId 66 = .ok (.iconst 2, 1) := by decide +kernel
theorem d_tr_draftId_67 : decode b_tr_draftId 67 = .ok (.imul, 1) := by decide +kernel
theorem d_tr_draftId_68 : decode b_tr_draftId 68 = .ok (.istore_n 3, 1) := by decide +kernel
theorem d_tr_draftId_69 : decode b_tr_draftId 69 = .ok (.iload_n 3, 1) := by decide +kernel
theorem d_tr_draftId_70 : decode b_tr_draftId 70 = .ok (.istore 4, 2) := by decide +kernel
theorem d_tr_draftId_72 : decode b_tr_draftId 72 = .ok (.iload 4, 2) := by decide +kernel
theorem d_tr_draftId_74 : decode b_tr_draftId 74 = .ok (.iload_n 3, 1) := by decide +kernel
theorem d_tr_draftId_75 : decode b_tr_draftId 75 = .ok (.aload_n 0, 1) := by decide +kernel
theorem d_tr_draftId_76 : decode b_tr_draftId 76 = .ok (.getfield 33, 3) := by decide +kernel
theorem d_tr_draftId_79 : decode b_tr_draftId 79 = .ok (.aload_n 0, 1) := by decide +kernel
theorem d_tr_draftId_80 : decode b_tr_draftId 80 = .ok (.getfield 42, 3) := by decide +kernel
theorem d_tr_draftId_83 : decode b_tr_draftId 83 = .ok (.iaload, 1) := by decide +kernel
theorem d_tr_draftId_84 : decode b_tr_draftId 84 = .ok (.iadd, 1) := by decide +kernel
theorem d_tr_draftId_85 : decode b_tr_draftId 85 = .ok (.if_icmp .ge 31, 3) := by decide +kernel
theorem d_tr_draftId_88 : decode b_tr_draftId 88 = .ok (.iload_n 1, 1) := by decide +kernel
theorem d_tr_draftId_89 : decode b_tr_draftId 89 = .ok (.aload_n 0, 1) := by decide +kernel
theorem d_tr_draftId_90 : decode b_tr_draftId 90 = .ok (.getfield 36, 3) := by decide +kernel
theorem d_tr_draftId_93 : decode b_tr_draftId 93 = .ok (.iload 4, 2) := by decide +kernel
theorem d_tr_draftId_95 : decode b_tr_draftId 95 = .ok (.iaload, 1) := by decide +kernel
theorem d_tr_draftId_96 : decode b_tr_draftId 96 = .ok (.invokestatic 54, 3) := by decide +kernel
theorem d_tr_draftId_99 : decode b_tr_draftId 99 = .ok (.aload_n 0, 1) := by decide +kernel
theorem d_tr_draftId_100 : decode b_tr_draftId 100 = .ok (.getfield 39, 3) := by decide +kernel
theorem d_tr_draftId_103 : decode b_tr_draftId 103 = .ok (.iload 4, 2) := by decide +kernel
theorem d_tr_draftId_105 : decode b_tr_draftId 105 = .ok (.iaload, 1) := by decide +kernel
theorem d_tr_draftId_106 : decode b_tr_draftId 106 = .ok (.invokestatic 54, 3) := by decide +kernel
theorem d_tr_draftId_109 : decode b_tr_draftId 109 = .ok (.istore_n 1, 1) := by decide +kernel
theorem d_tr_draftId_110 : decode b_tr_draftId 110 = .ok (.iinc 4 1, 3) := by decide +kernel
theorem d_tr_draftId_113 : decode b_tr_draftId 113 = .ok (.goto (-41), 3) := by decide +kernel
theorem d_tr_draftId_116 : decode b_tr_draftId 116 = .ok (.iload_n 1, 1) := by decide +kernel
theorem d_tr_draftId_117 : decode b_tr_draftId 117 = .ok (.ireturn, 1) := by decide +kernel
theorem d_tr_finish_0 : decode b_tr_finish 0 = .ok (.aload_n 0, 1) := by decide +kernel
theorem d_tr_finish_1 : decode b_tr_finish 1 = .ok (.getfield 42, 3) := by decide +kernel
theorem d_tr_finish_4 : decode b_tr_finish 4 = .ok (.bipush 40, 2) := by decide +kernel
theorem d_tr_finish_6 : decode b_tr_finish 6 = .ok (.if_icmp .eq 27, 3) := by decide +kernel
theorem d_tr_finish_9 : decode b_tr_finish 9 = .ok (.aload_n 0, 1) := by decide +kernel
theorem d_tr_finish_10 : decode b_tr_finish 10 = .ok (.getfield 15, 3) := by decide +kernel
theorem d_tr_finish_13 : decode b_tr_finish 13 = .ok (.aload_n 0, 1) := by decide +kernel
theorem d_tr_finish_14 : decode b_tr_finish 14 = .ok (.getfield 42, 3) := by decide +kernel
theorem d_tr_finish_17 : decode b_tr_finish 17 = .ok (.iaload, 1) := by decide +kernel
theorem d_tr_finish_18 : decode b_tr_finish 18 = .ok (.ifCond .eq 15, 3) := by decide +kernel
theorem d_tr_finish_21 : decode b_tr_finish 21 = .ok (.aload_n 0, 1) := by decide +kernel
theorem d_tr_finish_22 : decode b_tr_finish 22 = .ok (.getfield 33, 3) := by decide +kernel
theorem d_tr_finish_25 : decode b_tr_finish 25 = .ok (.aload_n 0, 1) := by decide +kernel
theorem d_tr_finish_26 : decode b_tr_finish 26 = .ok (.getfield 42, 3) := by decide +kernel
theorem d_tr_finish_29 : decode b_tr_finish 29 = .ok (.iaload, 1) := by decide +kernel
theorem d_tr_finish_30 : decode b_tr_finish 30 = .ok (.ifCond .ne 5, 3) := by decide +kernel
theorem d_tr_finish_33 : decode b_tr_finish 33 = .ok (.iconst (-1), 1) := by decide +kernel
theorem d_tr_finish_34 : decode b_tr_finish 34 = .ok (.ireturn, 1) := by decide +kernel
theorem d_tr_finish_35 : decode b_tr_finish 35 = .ok (.aload_n 0, 1) := by decide +kernel
theorem d_tr_finish_36 : decode b_tr_finish 36 = .ok (.getfield 11, 3) := by decide +kernel
theorem d_tr_finish_39 : decode b_tr_finish 39 = .ok (.aload_n 0, 1) := by decide +kernel
theorem d_tr_finish_40 : decode b_tr_finish 40 = .ok (.getfield 42, 3) := by decide +kernel
theorem d_tr_finish_43 : decode b_tr_finish 43 = .ok (.aload_n 0, 1) := by decide +kernel
theorem d_tr_finish_44 : decode b_tr_finish 44 = .ok (.invokevirtual 50, 3) := by decide +kernel
theorem d_tr_finish_47 : decode b_tr_finish 47 = .ok (.iastore, 1) := by decide +kernel
theorem d_tr_finish_48 : decode b_tr_finish 48 = .ok (.aload_n 0, 1) := by decide +kernel
theorem d_tr_finish_49 : decode b_tr_finish 49 = .ok (.dup, 1) := by decide +kernel
theorem d_tr_finish_50 : decode b_tr_finish 50 = .ok (.getfield 42, 3) := by decide +kernel
theorem d_tr_finish_53 : decode b_tr_finish 53 = .ok (.iconst 1, 1) := by decide +kernel
theorem d_tr_finish_54 : decode b_tr_finish 54 = .ok (.iadd, 1) := by decide +kernel
theorem d_tr_finish_55 : decode b_tr_finish 55 = .ok (.putfield 42, 3) := by decide +kernel
theorem d_tr_finish_58 : decode b_tr_finish 58 = .ok (.aload_n 0, 1) := by decide +kernel
theorem d_tr_finish_59 : decode b_tr_finish 59 = .ok (.getfield 42, 3) := by decide +kernel
theorem d_tr_finish_62 : decode b_tr_finish 62 = .ok (.iconst 1, 1) := by decide +kernel
theorem d_tr_finish_63 : decode b_tr_finish 63 = .ok (.isub, 1) := by decide +kernel
theorem d_tr_finish_64 : decode b_tr_finish 64 = .ok (.ireturn, 1) := by decide +kernel
theorem d_bm_transaction_0 : decode b_bm_transaction 0 = .ok (.aload_n 0, 1) := by decide +kernel
theorem d_bm_transaction_1 : decode b_bm_transaction 1 = .ok (.getfield 12, 3) := by decide +kernel
theorem d_bm_transaction_4 : decode b_bm_transaction 4 = .ok (.invokevirtual 95, 3) := by decide +kernel
theorem d_bm_transaction_7 : decode b_bm_transaction 7 = .ok (.ireturn, 1) := by decide +kernel
theorem d_nu_isFull_0 : decode b_nu_isFull 0 = .ok (.aload_n 0, 1) := by decide +kernel
theorem d_nu_isFull_1 : decode b_nu_isFull 1 = .ok (.getfield 15, 3) := by decide +kernel
theorem d_nu_isFull_4 : decode b_nu_isFull 4 = .ok (.aload_n 0, 1) := by decide +kernel
theorem d_nu_isFull_5 : decode b_nu_isFull 5 = .ok (.getfield 9, 3) := by decide +kernel
theorem d_nu_isFull_8 : decode b_nu_isFull 8 = .ok (.arraylength, 1) := by decide +kernel
theorem d_nu_isFull_9 : decode b_nu_isFull 9 = .ok (.if_icmp .ne 7, 3) := by decide +kernel
theorem d_nu_isFull_12 : decode b_nu_isFull 12 = .ok (.iconst 1, 1) := by decide +kernel
theorem d_nu_isFull_13 : decode b_nu_isFull 13 = .ok (.goto 4, 3) := by decide +kernel
theorem d_nu_isFull_16 : decode b_nu_isFull 16 = .ok (.iconst 0, 1) := by decide +kernel
theorem d_nu_isFull_17 : decode b_nu_isFull 17 = .ok (.ireturn, 1) := by decide +kernel
theorem d_nu_has_0 : decode b_nu_has 0 = .ok (.iconst 0, 1) := by decide +kernel
theorem d_nu_has_1 : decode b_nu_has 1 = .ok (.istore_n 2, 1) := by decide +kernel
theorem d_nu_has_2 : decode b_nu_has 2 = .ok (.iload_n 2, 1) := by decide +kernel
theorem d_nu_has_3 : decode b_nu_has 3 = .ok (.aload_n 0, 1) := by decide +kernel
theorem d_nu_has_4 : decode b_nu_has 4 = .ok (.getfield 15, 3) := by decide +kernel
theorem d_nu_has_7 : decode b_nu_has 7 = .ok (.if_icmp .ge 21, 3) := by decide +kernel
theorem d_nu_has_10 : decode b_nu_has 10 = .ok (.aload_n 0, 1) := by decide +kernel
theorem d_nu_has_11 : decode b_nu_has 11 = .ok (.getfield 9, 3) := by decide +kernel
theorem d_nu_has_14 : decode b_nu_has 14 = .ok (.iload_n 2, 1) := by decide +kernel
theorem d_nu_has_15 : decode b_nu_has 15 = .ok (.iaload, 1) := by decide +kernel
theorem d_nu_has_16 : decode b_nu_has 16 = .ok (.iload_n 1, 1) := by decide +kernel
theorem d_nu_has_17 : decode b_nu_has 17 = .ok (.if_icmp .ne 5, 3) := by decide +kernel
theorem d_nu_has_20 : decode b_nu_has 20 = .ok (.iconst 1, 1) := by decide +kernel
theorem d_nu_has_21 : decode b_nu_has 21 = .ok (.ireturn, 1) := by decide +kernel
theorem d_nu_has_22 : decode b_nu_has 22 = .ok (.iinc 2 1, 3) := by decide +kernel
theorem d_nu_has_25 : decode b_nu_has 25 = .ok (.goto (-23), 3) := by decide +kernel
theorem d_nu_has_28 : decode b_nu_has 28 = .ok (.iconst 0, 1) := by decide +kernel
theorem d_nu_has_29 : decode b_nu_has 29 = .ok (.ireturn, 1) := by decide +kernel
theorem d_nu_addNew_0 : decode b_nu_addNew 0 = .ok (.aload_n 0, 1) := by decide +kernel
theorem d_nu_addNew_1 : decode b_nu_addNew 1 = .ok (.invokevirtual 19, 3) := by decide +kernel
theorem d_nu_addNew_4 : decode b_nu_addNew 4 = .ok (.ifCond .ne 11, 3) := by decide +kernel
theorem d_nu_addNew_7 : decode b_nu_addNew 7 = .ok (.aload_n 0, 1) := by decide +kernel
theorem d_nu_addNew_8 : decode b_nu_addNew 8 = .ok (.iload_n 1, 1) := by decide +kernel
theorem d_nu_addNew_9 : decode b_nu_addNew 9 = .ok (.invokevirtual 23, 3) := by decide +kernel
theorem d_nu_addNew_12 : decode b_nu_addNew 12 = .ok (.ifCond .eq 5, 3) := by decide +kernel
theorem d_nu_addNew_15 : decode b_nu_addNew 15 = .ok (.iconst 0, 1) := by decide +kernel
theorem d_nu_addNew_16 : decode b_nu_addNew 16 = .ok (.ireturn, 1) := by decide +kernel
theorem d_nu_addNew_17 : decode b_nu_addNew 17 = .ok (.aload_n 0, 1) := by decide +kernel
theorem d_nu_addNew_18 : decode b_nu_addNew 18 = .ok (.getfield 9, 3) := by decide +kernel
theorem d_nu_addNew_21 : decode b_nu_addNew 21 = .ok (.aload_n 0, 1) := by decide +kernel
theorem d_nu_addNew_22 : decode b_nu_addNew 22 = .ok (.getfield 15, 3) := by decide +kernel
theorem d_nu_addNew_25 : decode b_nu_addNew 25 = .ok (.iload_n 1, 1) := by decide +kernel
theorem d_nu_addNew_26 : decode b_nu_addNew 26 = .ok (.iastore, 1) := by decide +kernel
theorem d_nu_addNew_27 : decode b_nu_addNew 27 = .ok (.aload_n 0, 1) := by decide +kernel
theorem d_nu_addNew_28 : decode b_nu_addNew 28 = .ok (.dup, 1) := by decide +kernel
theorem d_nu_addNew_29 : decode b_nu_addNew 29 = .ok (.getfield 15, 3) := by decide +kernel
theorem d_nu_addNew_32 : decode b_nu_addNew 32 = .ok (.iconst 1, 1) := by decide +kernel
theorem d_nu_addNew_33 : decode b_nu_addNew 33 = .ok (.iadd, 1) := by decide +kernel
theorem d_nu_addNew_34 : decode b_nu_addNew 34 = .ok (.putfield 15, 3) := by decide +kernel
theorem d_nu_addNew_37 : decode b_nu_addNew 37 = .ok (.iconst 1, 1) := by decide +kernel
theorem d_nu_addNew_38 : decode b_nu_addNew 38 = .ok (.ireturn, 1) := by decide +kernel
theorem d_bm_parent_0 : decode b_bm_parent 0 = .ok (.aload_n 0, 1) := by decide +kernel
theorem d_bm_parent_1 : decode b_bm_parent 1 = .ok (.getfield 19, 3) := by decide +kernel
theorem d_bm_parent_4 : decode b_bm_parent 4 = .ok (.iload_n 1, 1) := by decide +kernel
theorem d_bm_parent_5 : decode b_bm_parent 5 = .ok (.invokevirtual 99, 3) := by decide +kernel
theorem d_bm_parent_8 : decode b_bm_parent 8 = .ok (.ifCond .eq 21, 3) := by decide +kernel
theorem d_bm_parent_11 : decode b_bm_parent 11 = .ok (.aload_n 0, 1) := by decide +kernel
theorem d_bm_parent_12 : decode b_bm_parent 12 = .ok (.getfield 26, 3) := by decide +kernel
theorem d_bm_parent_15 : decode b_bm_parent 15 = .ok (.getfield 102, 3) := by decide +kernel
theorem d_bm_parent_18 : decode b_bm_parent 18 = .ok (.iload_n 1, 1) := by decide +kernel
theorem d_bm_parent_19 : decode b_bm_parent 19 = .ok (.invokevirtual 105, 3) := by decide +kernel
theorem d_bm_parent_22 : decode b_bm_parent 22 = .ok (.ifCond .eq 7, 3) := by decide +kernel
theorem d_bm_parent_25 : decode b_bm_parent 25 = .ok (.iconst 1, 1) := by decide +kernel
theorem d_bm_parent_26 : decode b_bm_parent 26 = .ok (.goto 4, 3) := by decide +kernel
theorem d_bm_parent_29 : decode b_bm_parent 29 = .ok (.iconst 0, 1) := by decide +kernel
theorem d_bm_parent_30 : decode b_bm_parent 30 = .ok (.ireturn, 1) := by decide +kernel
theorem d_bm_include_0 : decode b_bm_include 0 = .ok (.aload_n 0, 1) := by decide +kernel
theorem d_bm_include_1 : decode b_bm_include 1 = .ok (.getfield 12, 3) := by decide +kernel
theorem d_bm_include_4 : decode b_bm_include 4 = .ok (.iload_n 1, 1) := by decide +kernel
theorem d_bm_include_5 : decode b_bm_include 5 = .ok (.invokevirtual 108, 3) := by decide +kernel
theorem d_bm_include_8 : decode b_bm_include 8 = .ok (.ifCond .eq 21, 3) := by decide +kernel
theorem d_bm_include_11 : decode b_bm_include 11 = .ok (.aload_n 0, 1) := by decide +kernel
theorem d_bm_include_12 : decode b_bm_include 12 = .ok (.getfield 26, 3) := by decide +kernel
theorem d_bm_include_15 : decode b_bm_include 15 = .ok (.getfield 109, 3) := by decide +kernel
theorem d_bm_include_18 : decode b_bm_include 18 = .ok (.iload_n 1, 1) := by decide +kernel
theorem d_bm_include_19 : decode b_bm_include 19 = .ok (.invokevirtual 105, 3) := by decide +kernel
theorem d_bm_include_22 : decode b_bm_include 22 = .ok (.ifCond .eq 7, 3) := by decide +kernel
theorem d_bm_include_25 : decode b_bm_include 25 = .ok (.iconst 1, 1) := by decide +kernel
theorem d_bm_include_26 : decode b_bm_include 26 = .ok (.goto 4, 3) := by decide +kernel
theorem d_bm_include_29 : decode b_bm_include 29 = .ok (.iconst 0, 1) := by decide +kernel
theorem d_bm_include_30 : decode b_bm_include 30 = .ok (.ireturn, 1) := by decide +kernel
theorem d_bl_isFull_0 : decode b_bl_isFull 0 = .ok (.aload_n 0, 1) := by decide +kernel
theorem d_bl_isFull_1 : decode b_bl_isFull 1 = .ok (.getfield 35, 3) := by decide +kernel
theorem d_bl_isFull_4 : decode b_bl_isFull 4 = .ok (.bipush 60, 2) := by decide +kernel
theorem d_bl_isFull_6 : decode b_bl_isFull 6 = .ok (.if_icmp .ne 7, 3) := by decide +kernel
theorem d_bl_isFull_9 : decode b_bl_isFull 9 = .ok (.iconst 1, 1) := by decide +kernel
theorem d_bl_isFull_10 : decode b_bl_isFull 10 = .ok (.goto 4, 3) := by decide +kernel
theorem d_bl_isFull_13 : decode b_bl_isFull 13 = .ok (.iconst 0, 1) := by decide +kernel
theorem d_bl_isFull_14 : decode b_bl_isFull 14 = .ok (.ireturn, 1) := by decide +kernel
theorem d_bl_workedHash_0 : decode b_bl_workedHash 0 = .ok (.ldc 39, 2) := by decide +kernel
theorem d_bl_workedHash_2 : decode b_bl_workedHash 2 = .ok (.istore_n 2, 1) := by decide +kernel
theorem d_bl_workedHash_3 : decode b_bl_workedHash 3 = .ok (.iconst 0, 1) := by decide +kernel
theorem d_bl_workedHash_4 : decode b_bl_workedHash 4 = .ok (.istore_n 3, 1) := by decide +kernel
theorem d_bl_workedHash_5 : decode b_bl_workedHash 5 = .ok (.iload_n 3, 1) := by decide +kernel
theorem d_bl_workedHash_6 : decode b_bl_workedHash 6 = .ok (.bipush 40, 2) := by decide +kernel
theorem d_bl_workedHash_8 : decode b_bl_workedHash 8 = .ok (.if_icmp .ge 26, 3) := by decide +kernel
theorem d_bl_workedHash_11 : decode b_bl_workedHash 11 = .ok (.iload_n 2, 1) := by decide +kernel
theorem d_bl_workedHash_12 : decode b_bl_workedHash 12 = .ok (.ldc 39, 2) := by decide +kernel
theorem d_bl_workedHash_14 : decode b_bl_workedHash 14 = .ok (.if_icmp .lt 20, 3) := by decide +kernel
theorem d_bl_workedHash_17 : decode b_bl_workedHash 17 = .ok (.iload_n 0, 1) := by decide +kernel
theorem d_bl_workedHash_18 : decode b_bl_workedHash 18 = .ok (.iload_n 1, 1) := by decide +kernel
theorem d_bl_workedHash_19 : decode b_bl_workedHash 19 = .ok (.iload_n 3, 1) := by decide +kernel
theorem d_bl_workedHash_20 : decode b_bl_workedHash 20 = .ok (.iadd, 1) := by decide +kernel
theorem d_bl_workedHash_21 : decode b_bl_workedHash 21 = .ok (.invokestatic 30, 3) := by decide +kernel
theorem d_bl_workedHash_24 : decode b_bl_workedHash 24 = .ok (.ldc 34, 2) := by decide +kernel
theorem d_bl_workedHash_26 : decode b_bl_workedHash 26 = .ok (.iand, 1) := by decide +kernel
theorem d_bl_workedHash_27 : decode b_bl_workedHash 27 = .ok (.istore_n 2, 1) := by decide +kernel
theorem d_bl_workedHash_28 : decode b_bl_workedHash 28 = .ok (.iinc 3 1, 3) := by decide +kernel
theorem d_bl_workedHash_31 : decode b_bl_workedHash 31 = .ok (.goto (-26), 3) := by decide +kernel
theorem d_bl_workedHash_34 : decode b_bl_workedHash 34 = .ok (.iload_n 2, 1) := by decide +kernel
theorem d_bl_workedHash_35 : decode b_bl_workedHash 35 = .ok (.ireturn, 1) := by decide +kernel
theorem d_bl_build_0 : decode b_bl_build 0 = .ok (.aload_n 0, 1) := by decide +kernel
theorem d_bl_build_1 : decode b_bl_build 1 = .ok (.getfield 35, 3) := by decide +kernel
theorem d_bl_build_4 : decode b_bl_build 4 = .ok (.istore 5, 2) := by decide +kernel
theorem d_bl_build_6 : decode b_bl_build 6 = .ok (.bipush 13, 2) := by decide +kernel
theorem d_bl_build_8 : decode b_bl_build 8 = .ok (.istore 6, 2) := by decide +kernel
theorem d_bl_build_10 : decode b_bl_build 10 = .ok (.iconst 0, 1) := by decide +kernel
theorem d_bl_build_11 : decode b_bl_build 11 = .ok (.istore 7, 2) := by decide +kernel
theorem d_bl_build_13 : decode b_bl_build 13 = .ok (.iload 7, 2) := by decide +kernel
theorem d_bl_build_15 : decode b_bl_build 15 = .ok (.aload_n 1, 1) := by decide +kernel
theorem d_bl_build_16 : decode b_bl_build 16 = .ok (.getfield 47, 3) := by decide +kernel
theorem d_bl_build_19 : decode b_bl_build 19 = .ok (.getfield 52, 3) := by decide +kernel
theorem d_bl_build_22 : decode b_bl_build 22 = .ok (.if_icmp .ge 48, 3) := by decide +kernel
theorem d_bl_build_25 : decode b_bl_build 25 = .ok (.aload_n 1, 1) := by decide +kernel
theorem d_bl_build_26 : decode b_bl_build 26 = .ok (.getfield 47, 3) := by decide +kernel
theorem d_bl_build_29 : decode b_bl_build 29 = .ok (.iload 7, 2) := by decide +kernel
theorem d_bl_build_31 : decode b_bl_build 31 = .ok (.invokevirtual 57, 3) := by decide +kernel
theorem d_bl_build_34 : decode b_bl_build 34 = .ok (.istore 8, 2) := by decide +kernel
theorem d_bl_build_36 : decode b_bl_build 36 = .ok (.aload_n 0, 1) := by decide +kernel
theorem d_bl_build_37 : decode b_bl_build 37 = .ok (.getfield 15, 3) := by decide +kernel
theorem d_bl_build_40 : decode b_bl_build 40 = .ok (.iload 5, 2) := by decide +kernel
theorem d_bl_build_42 : decode b_bl_build 42 = .ok (.iconst 4, 1) := by decide +kernel
theorem d_bl_build_43 : decode b_bl_build 43 = .ok (.imul, 1) := by decide +kernel
theorem d_bl_build_44 : decode b_bl_build 44 = .ok (.iload 7, 2) := by decide +kernel
theorem d_bl_build_46 : decode b_bl_build 46 = .ok (.iadd, 1) := by decide +kernel
theorem d_bl_build_47 : decode b_bl_build 47 = .ok (.iload 8, 2) := by decide +kernel
theorem d_bl_build_49 : decode b_bl_build 49 = .ok (.iastore, 1) := by decide +kernel
theorem d_bl_build_50 : decode b_bl_build 50 = .ok (.iload 6, 2) := by decide +kernel
theorem d_bl_build_52 : decode b_bl_build 52 = .ok (.aload_n 0, 1) := by decide +kernel
theorem d_bl_build_53 : decode b_bl_build 53 = .ok (.getfield 27, 3) := by decide +kernel
theorem d_bl_build_56 : decode b_bl_build 56 = .ok (.iload 8, 2) := by decide +kernel
theorem d_bl_build_58 : decode b_bl_build 58 = .ok (.iaload, 1) := by decide +kernel
theorem d_bl_build_59 : decode b_bl_build 59 = .ok (.invokestatic 30, 3) := by decide +kernel
theorem d_bl_build_62 : decode b_bl_build 62 = .ok (.istore 6, 2) := by decide +kernel
theorem d_bl_build_64 : decode b_bl_build 64 = .ok (.iinc 7 1, 3) := by decide +kernel
theorem d_bl_build_67 : decode b_bl_build 67 = .ok (.goto (-54), 3) := by decide +kernel
theorem d_bl_build_70 : decode b_bl_build 70 = .ok (.iconst 0, 1) := by decide +kernel
theorem d_bl_build_71 : decode b_bl_build 71 = .ok (.istore 7, 2) := by decide +kernel
theorem d_bl_build_73 : decode b_bl_build 73 = .ok (.iload 7, 2) := by decide +kernel
theorem d_bl_build_75 : decode b_bl_build 75 = .ok (.aload_n 1, 1) := by decide +kernel
theorem d_bl_build_76 : decode b_bl_build 76 = .ok (.getfield 61, 3) := by decide +kernel
theorem d_bl_build_79 : decode b_bl_build 79 = .ok (.getfield 52, 3) := by decide +kernel
theorem d_bl_build_82 : decode b_bl_build 82 = .ok (.if_icmp .ge 48, 3) := by decide +kernel
theorem d_bl_build_85 : decode b_bl_build 85 = .ok (.aload_n 1, 1) := by decide +kernel
theorem d_bl_build_86 : decode b_bl_build 86 = .ok (.getfield 61, 3) := by decide +kernel
theorem d_bl_build_89 : decode b_bl_build 89 = .ok (.iload 7, 2) := by decide +kernel
theorem d_bl_build_91 : decode b_bl_build 91 = .ok (.invokevirtual 57, 3) := by decide +kernel
theorem d_bl_build_94 : decode b_bl_build 94 = .ok (.istore 8, 2) := by decide +kernel
theorem d_bl_build_96 : decode b_bl_build 96 = .ok (.aload_n 0, 1) := by decide +kernel
theorem d_bl_build_97 : decode b_bl_build 97 = .ok (.getfield 21, 3) := by decide +kernel
theorem d_bl_build_100 : decode b_bl_build 100 = .ok (.iload 5, 2) := by decide +kernel
theorem d_bl_build_102 : decode b_bl_build 102 = .ok (.iconst 3, 1) := by decide +kernel
theorem d_bl_build_103 : decode b_bl_build 103 = .ok (.imul, 1) := by decide +kernel
theorem d_bl_build_104 : decode b_bl_build 104 = .ok (.iload 7, 2) := by decide +kernel
theorem d_bl_build_106 : decode b_bl_build 106 = .ok (.iadd, 1) := by decide +kernel
theorem d_bl_build_107 : decode b_bl_build 107 = .ok (.iload 8, 2) := by decide +kernel
theorem d_bl_build_109 : decode b_bl_build 109 = .ok (.iastore, 1) := by decide +kernel
theorem d_bl_build_110 : decode b_bl_build 110 = .ok (.iload 6, 2) := by decide +kernel
theorem d_bl_build_112 : decode b_bl_build 112 = .ok (.aload_n 2, 1) := by decide +kernel
theorem d_bl_build_113 : decode b_bl_build 113 = .ok (.getfield 63, 3) := by decide +kernel
theorem d_bl_build_116 : decode b_bl_build 116 = .ok (.iload 8, 2) := by decide +kernel
theorem d_bl_build_118 : decode b_bl_build 118 = .ok (.iaload, 1) := by decide +kernel
theorem d_bl_build_119 : decode b_bl_build 119 = .ok (.invokestatic 30, 3) := by decide +kernel
theorem d_bl_build_122 : decode b_bl_build 122 = .ok (.istore 6, 2) := by decide +kernel
theorem d_bl_build_124 : decode b_bl_build 124 = .ok (.iinc 7 1, 3) := by decide +kernel
theorem d_bl_build_127 : decode b_bl_build 127 = .ok (.goto (-54), 3) := by decide +kernel
theorem d_bl_build_130 : decode b_bl_build 130 = .ok (.aload_n 0, 1) := by decide +kernel
theorem d_bl_build_131 : decode b_bl_build 131 = .ok (.getfield 9, 3) := by decide +kernel
theorem d_bl_build_134 : decode b_bl_build 134 = .ok (.iload 5, 2) := by decide +kernel
theorem d_bl_build_136 : decode b_bl_build 136 = .ok (.aload_n 1, 1) := by decide +kernel
theorem d_bl_build_137 : decode b_bl_build 137 = .ok (.getfield 47, 3) := by decide +kernel
theorem d_bl_build_140 : decode b_bl_build 140 = .ok (.getfield 52, 3) := by decide +kernel
theorem d_bl_build_143 : decode b_bl_build 143 = .ok (.iastore, 1) := by decide +kernel
theorem d_bl_build_144 : decode b_bl_build 144 = .ok (.aload_n 0, 1) := by decide +kernel
theorem d_bl_build_145 : decode b_bl_build 145 = .ok (.getfield 18, 3) := by decide +kernel
theorem d_bl_build_148 : decode b_bl_build 148 = .ok (.iload 5, 2) := by decide +kernel
theorem d_bl_build_150 : decode b_bl_build 150 = .ok (.aload_n 1, 1) := by decide +kernel
theorem d_bl_build_151 : decode b_bl_build 151 = .ok (.getfield 61, 3) := by decide +kernel
theorem d_bl_build_154 : decode b_bl_build 154 = .ok (.getfield 52, 3) := by decide +kernel
theorem d_bl_build_157 : decode b_bl_build 157 = .ok (.iastore, 1) := by decide +kernel
theorem d_bl_build_158 : decode b_bl_build 158 = .ok (.aload_n 0, 1) := by decide +kernel
theorem d_bl_build_159 : decode b_bl_build 159 = .ok (.getfield 24, 3) := by decide +kernel
theorem d_bl_build_162 : decode b_bl_build 162 = .ok (.iload 5, 2) := by decide +kernel
theorem d_bl_build_164 : decode b_bl_build 164 = .ok (.iload_n 3, 1) := by decide +kernel
theorem d_bl_build_165 : decode b_bl_build 165 = .ok (.iastore, 1) := by decide +kernel
theorem d_bl_build_166 : decode b_bl_build 166 = .ok (.aload_n 0, 1) := by decide +kernel
theorem d_bl_build_167 : decode b_bl_build 167 = .ok (.getfield 27, 3) := by decide +kernel
theorem d_bl_build_170 : decode b_bl_build 170 = .ok (.iload 5, 2) := by decide +kernel
theorem d_bl_build_172 : decode b_bl_build 172 = .ok (.iload 6, 2) := by decide +kernel
theorem d_bl_build_174 : decode b_bl_build 174 = .ok (.iload_n 3, 1) := by decide +kernel
theorem d_bl_build_175 : decode b_bl_build 175 = .ok (.invokestatic 30, 3) := by decide +kernel
theorem d_bl_build_178 : decode b_bl_build 178 = .ok (.iload 4, 2) := by decide +kernel
theorem d_bl_build_180 : decode b_bl_build 180 = .ok (.invokestatic 68, 3) := by decide +kernel
theorem d_bl_build_183 : decode b_bl_build 183 = .ok (.iastore, 1) := by decide +kernel
theorem d_bl_build_184 : decode b_bl_build 184 = .ok (.aload_n 0, 1) := by decide +kernel
theorem d_bl_build_185 : decode b_bl_build 185 = .ok (.dup, 1) := by decide +kernel
theorem d_bl_build_186 : decode b_bl_build 186 = .ok (.getfield 35, 3) := by decide +kernel
theorem d_bl_build_189 : decode b_bl_build 189 = .ok (.iconst 1, 1) := by decide +kernel
theorem d_bl_build_190 : decode b_bl_build 190 = .ok (.iadd, 1) := by decide +kernel
theorem d_bl_build_191 : decode b_bl_build 191 = .ok (.putfield 35, 3) := by decide +kernel
theorem d_bl_build_194 : decode b_bl_build 194 = .ok (.iload 5, 2) := by decide +kernel
theorem d_bl_build_196 : decode b_bl_build 196 = .ok (.ireturn, 1) := by decide +kernel
theorem d_bp_forget_0 : decode b_bp_forget 0 = .ok (.aload_n 0, 1) := by decide +kernel
theorem d_bp_forget_1 : decode b_bp_forget 1 = .ok (.getfield 14, 3) := by decide +kernel
theorem d_bp_forget_4 : decode b_bp_forget 4 = .ok (.iconst 0, 1) := by decide +kernel
theorem d_bp_forget_5 : decode b_bp_forget 5 = .ok (.putfield 23, 3) := by decide +kernel
theorem d_bp_forget_8 : decode b_bp_forget 8 = .ok (.aload_n 0, 1) := by decide +kernel
theorem d_bp_forget_9 : decode b_bp_forget 9 = .ok (.getfield 20, 3) := by decide +kernel
theorem d_bp_forget_12 : decode b_bp_forget 12 = .ok (.iconst 0, 1) := by decide +kernel
theorem d_bp_forget_13 : decode b_bp_forget 13 = .ok (.putfield 23, 3) := by decide +kernel
theorem d_bp_forget_16 : decode b_bp_forget 16 = .ok (.return_, 1) := by decide +kernel
theorem d_bm_make_0 : decode b_bm_make 0 = .ok (.aload_n 0, 1) := by decide +kernel
theorem d_bm_make_1 : decode b_bm_make 1 = .ok (.getfield 26, 3) := by decide +kernel
theorem d_bm_make_4 : decode b_bm_make 4 = .ok (.getfield 102, 3) := by decide +kernel
theorem d_bm_make_7 : decode b_bm_make 7 = .ok (.getfield 112, 3) := by decide +kernel
theorem d_bm_make_10 : decode b_bm_make 10 = .ok (.ifCond .eq 13, 3) := by decide +kernel
theorem d_bm_make_13 : decode b_bm_make 13 = .ok (.aload_n 0, 1) := by decide +kernel
theorem d_bm_make_14 : decode b_bm_make 14 = .ok (.getfield 19, 3) := by decide +kernel
theorem d_bm_make_17 : decode b_bm_make 17 = .ok (.invokevirtual 116, 3) := by decide +kernel
theorem d_bm_make_20 : decode b_bm_make 20 = .ok (.ifCond .eq 5, 3) := by decide +kernel
theorem d_bm_make_23 : decode b_bm_make 23 = .ok (.iconst (-1), 1) := by decide +kernel
theorem d_bm_make_24 : decode b_bm_make 24 = .ok (.ireturn, 1) := by decide +kernel
theorem d_bm_make_25 : decode b_bm_make 25 = .ok (.aload_n 0, 1) := by decide +kernel
theorem d_bm_make_26 : decode b_bm_make 26 = .ok (.getfield 19, 3) := by decide +kernel
theorem d_bm_make_29 : decode b_bm_make 29 = .ok (.aload_n 0, 1) := by decide +kernel
theorem d_bm_make_30 : decode b_bm_make 30 = .ok (.getfield 26, 3) := by decide +kernel
theorem d_bm_make_33 : decode b_bm_make 33 = .ok (.aload_n 0, 1) := by decide +kernel
theorem d_bm_make_34 : decode b_bm_make 34 = .ok (.getfield 12, 3) := by decide +kernel
theorem d_bm_make_37 : decode b_bm_make 37 = .ok (.iload_n 1, 1) := by decide +kernel
theorem d_bm_make_38 : decode b_bm_make 38 = .ok (.invokestatic 88, 3) := by decide +kernel
theorem d_bm_make_41 : decode b_bm_make 41 = .ok (.iload_n 2, 1) := by decide +kernel
theorem d_bm_make_42 : decode b_bm_make 42 = .ok (.invokevirtual 120, 3) := by decide +kernel
theorem d_bm_make_45 : decode b_bm_make 45 = .ok (.istore_n 3, 1) := by decide +kernel
theorem d_bm_make_46 : decode b_bm_make 46 = .ok (.aload_n 0, 1) := by decide +kernel
theorem d_bm_make_47 : decode b_bm_make 47 = .ok (.getfield 26, 3) := by decide +kernel
theorem d_bm_make_50 : decode b_bm_make 50 = .ok (.invokevirtual 124, 3) := by decide +kernel
theorem d_bm_make_53 : decode b_bm_make 53 = .ok (.iload_n 3, 1) := by decide +kernel
theorem d_bm_make_54 : decode b_bm_make 54 = .ok (.ireturn, 1) := by decide +kernel
theorem d_tr_forgetDraft_0 : decode b_tr_forgetDraft 0 = .ok (.aload_n 0, 1) := by decide +kernel
theorem d_tr_forgetDraft_1 : decode b_tr_forgetDraft 1 = .ok (.getfield 15, 3) := by decide +kernel
theorem d_tr_forgetDraft_4 : decode b_tr_forgetDraft 4 = .ok (.aload_n 0, 1) := by decide +kernel
theorem d_tr_forgetDraft_5 : decode b_tr_forgetDraft 5 = .ok (.getfield 42, 3) := by decide +kernel
theorem d_tr_forgetDraft_8 : decode b_tr_forgetDraft 8 = .ok (.iconst 0, 1) := by decide +kernel
theorem d_tr_forgetDraft_9 : decode b_tr_forgetDraft 9 = .ok (.iastore, 1) := by decide +kernel
theorem d_tr_forgetDraft_10 : decode b_tr_forgetDraft 10 = .ok (.aload_n 0, 1) := by decide +kernel
theorem d_tr_forgetDraft_11 : decode b_tr_forgetDraft 11 = .ok (.getfield 33, 3) := by decide +kernel
theorem d_tr_forgetDraft_14 : decode b_tr_forgetDraft 14 = .ok (.aload_n 0, 1) := by decide +kernel
theorem d_tr_forgetDraft_15 : decode b_tr_forgetDraft 15 = .ok (.getfield 42, 3) := by decide +kernel
theorem d_tr_forgetDraft_18 : decode b_tr_forgetDraft 18 = .ok (.iconst 0, 1) := by decide +kernel
theorem d_tr_forgetDraft_19 : decode b_tr_forgetDraft 19 = .ok (.iastore, 1) := by decide +kernel
theorem d_tr_forgetDraft_20 : decode b_tr_forgetDraft 20 = .ok (.return_, 1) := by decide +kernel
theorem d_bm_clear_0 : decode b_bm_clear 0 = .ok (.aload_n 0, 1) := by decide +kernel
theorem d_bm_clear_1 : decode b_bm_clear 1 = .ok (.getfield 12, 3) := by decide +kernel
theorem d_bm_clear_4 : decode b_bm_clear 4 = .ok (.invokevirtual 127, 3) := by decide +kernel
theorem d_bm_clear_7 : decode b_bm_clear 7 = .ok (.aload_n 0, 1) := by decide +kernel
theorem d_bm_clear_8 : decode b_bm_clear 8 = .ok (.getfield 26, 3) := by decide +kernel
theorem d_bm_clear_11 : decode b_bm_clear 11 = .ok (.invokevirtual 124, 3) := by decide +kernel
theorem d_bm_clear_14 : decode b_bm_clear 14 = .ok (.return_, 1) := by decide +kernel
theorem d_bm_template_0 : decode b_bm_template 0 = .ok (.aload_n 0, 1) := by decide +kernel
theorem d_bm_template_1 : decode b_bm_template 1 = .ok (.getfield 19, 3) := by decide +kernel
theorem d_bm_template_4 : decode b_bm_template 4 = .ok (.invokevirtual 116, 3) := by decide +kernel
theorem d_bm_template_7 : decode b_bm_template 7 = .ok (.ifCond .eq 5, 3) := by decide +kernel
theorem d_bm_template_10 : decode b_bm_template 10 = .ok (.iconst (-1), 1) := by decide +kernel
theorem d_bm_template_11 : decode b_bm_template 11 = .ok (.ireturn, 1) := by decide +kernel
theorem d_bm_template_12 : decode b_bm_template 12 = .ok (.aload_n 0, 1) := by decide +kernel
theorem d_bm_template_13 : decode b_bm_template 13 = .ok (.getfield 30, 3) := by decide +kernel
theorem d_bm_template_16 : decode b_bm_template 16 = .ok (.invokevirtual 124, 3) := by decide +kernel
theorem d_bm_template_19 : decode b_bm_template 19 = .ok (.aload_n 0, 1) := by decide +kernel
theorem d_bm_template_20 : decode b_bm_template 20 = .ok (.getfield 38, 3) := by decide +kernel
theorem d_bm_template_23 : decode b_bm_template 23 = .ok (.getfield 130, 3) := by decide +kernel
theorem d_bm_template_26 : decode b_bm_template 26 = .ok (.lstore_n 3, 1) := by decide +kernel
theorem d_bm_template_27 : decode b_bm_template 27 = .ok (.iconst 0, 1) := by decide +kernel
theorem d_bm_template_28 : decode b_bm_template 28 = .ok (.istore 5, 2) := by decide +kernel
theorem d_bm_template_30 : decode b_bm_template 30 = .ok (.iload 5, 2) := by decide +kernel
theorem d_bm_template_32 : decode b_bm_template 32 = .ok (.iconst 4, 1) := by decide +kernel
theorem d_bm_template_33 : decode b_bm_template 33 = .ok (.if_icmp .ge 50, 3) := by decide +kernel
