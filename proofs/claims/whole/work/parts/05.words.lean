theorem wd_1_1 : (Cond.initialized "BlockMesh") ∈ WG := mo_wg (mo_t1 (List.mem_of_getElem? (i := 1) rfl)) rfl
theorem wd_1_2 : (Cond.initialized "BlockMesh$Transactions") ∈ WG := mo_wg (mo_t1 (List.mem_of_getElem? (i := 2) rfl)) rfl
theorem wd_1_3 : (Cond.initialized "BlockMesh$Blocks") ∈ WG := mo_wg (mo_t1 (List.mem_of_getElem? (i := 3) rfl)) rfl
theorem wd_1_4 : (Cond.initialized "BlockMesh$BlockPlan") ∈ WG := mo_wg (mo_t1 (List.mem_of_getElem? (i := 4) rfl)) rfl
theorem wd_1_5 : (Cond.initialized "BlockMesh$Numbers") ∈ WG := mo_wg (mo_t1 (List.mem_of_getElem? (i := 5) rfl)) rfl
theorem wd_1_6 : (Cond.initialized "BlockMesh$Dag") ∈ WG := mo_wg (mo_t1 (List.mem_of_getElem? (i := 6) rfl)) rfl
theorem wd_1_7 : (Cond.initialized "BlockMesh$Ledger") ∈ WG := mo_wg (mo_t1 (List.mem_of_getElem? (i := 7) rfl)) rfl
theorem wd_1_8 : (Cond.initialized "java/lang/Long") ∈ WG := mo_wg (mo_t1 (List.mem_of_getElem? (i := 8) rfl)) rfl
theorem wd_1_9 : (Cond.initialized "java/lang/System") ∈ WG := mo_wg (mo_t1 (List.mem_of_getElem? (i := 9) rfl)) rfl
theorem wd_1_10 : (Cond.initialized "java/util/Arrays") ∈ WG := mo_wg (mo_t1 (List.mem_of_getElem? (i := 10) rfl)) rfl
theorem wd_1_11 : (Cond.initialized "java/lang/Math") ∈ WG := mo_wg (mo_t1 (List.mem_of_getElem? (i := 11) rfl)) rfl
theorem wd_1_12 : (Cond.initialized "BlockMeshModel") ∈ WG := mo_wg (mo_t1 (List.mem_of_getElem? (i := 12) rfl)) rfl
theorem wd_1_18 : (Cond.methodLink "BlockMesh" (3 : Nat) ({ cls := "java/lang/Object", name := "<init>", desc := "()V" } : MethodName)) ∈ WG := mo_wg (mo_t1 (List.mem_of_getElem? (i := 18) rfl)) rfl
theorem wd_1_19 : (Cond.instanceMethod ({ cls := "java/lang/Object", name := "<init>", desc := "()V" } : MethodName)) ∈ WG := mo_wg (mo_t1 (List.mem_of_getElem? (i := 19) rfl)) rfl
theorem wd_1_20 : (Cond.code ({ cls := "java/lang/Object", name := "<init>", desc := "()V" } : MethodName) object_method_1_code (1 : Nat) (Option.none : Option FieldType)) ∈ WG := mo_wg (mo_t1 (List.mem_of_getElem? (i := 20) rfl)) rfl
theorem wd_1_21 : (Cond.classLink "BlockMesh" (9 : Nat) "BlockMesh$Transactions") ∈ WG := mo_wg (mo_t1 (List.mem_of_getElem? (i := 21) rfl)) rfl
theorem wd_1_22 : (Cond.instantiable "BlockMesh$Transactions" (11 : Nat)) ∈ WG := mo_wg (mo_t1 (List.mem_of_getElem? (i := 22) rfl)) rfl
theorem wn_1_23 : (Cond.methodLinkNest "BlockMesh" (11 : Nat) ({ cls := "BlockMesh$Transactions", name := "<init>", desc := "()V" } : MethodName) "BlockMesh") ∈ NWG := mo_nw (mo_t1 (List.mem_of_getElem? (i := 23) rfl)) rfl
theorem wd_1_24 : (Cond.instanceMethod ({ cls := "BlockMesh$Transactions", name := "<init>", desc := "()V" } : MethodName)) ∈ WG := mo_wg (mo_t1 (List.mem_of_getElem? (i := 24) rfl)) rfl
theorem wd_1_25 : (Cond.code ({ cls := "BlockMesh$Transactions", name := "<init>", desc := "()V" } : MethodName) prog_7_method_1_code (1 : Nat) (Option.none : Option FieldType)) ∈ WG := mo_wg (mo_t1 (List.mem_of_getElem? (i := 25) rfl)) rfl
theorem wd_1_26 : (Cond.methodLink "BlockMesh$Transactions" (3 : Nat) ({ cls := "java/lang/Object", name := "<init>", desc := "()V" } : MethodName)) ∈ WG := mo_wg (mo_t1 (List.mem_of_getElem? (i := 26) rfl)) rfl
theorem wd_1_27 : (Cond.fieldLink "BlockMesh$Transactions" (42 : Nat) "BlockMesh$Transactions" "made" "I") ∈ WG := mo_wg (mo_t1 (List.mem_of_getElem? (i := 27) rfl)) rfl
theorem wn_1_28 : (Cond.fieldLinkNest "BlockMesh" (219 : Nat) "BlockMesh$Transactions" "made" "I" "BlockMesh") ∈ NWG := mo_nw (mo_t1 (List.mem_of_getElem? (i := 28) rfl)) rfl
theorem wd_1_29 : (Cond.fieldLink "BlockMesh$Transactions" (11 : Nat) "BlockMesh$Transactions" "ids" "[I") ∈ WG := mo_wg (mo_t1 (List.mem_of_getElem? (i := 29) rfl)) rfl
theorem wn_1_30 : (Cond.fieldLinkNest "BlockMesh$Blocks" (63 : Nat) "BlockMesh$Transactions" "ids" "[I" "BlockMesh") ∈ NWG := mo_nw (mo_t1 (List.mem_of_getElem? (i := 30) rfl)) rfl
theorem wn_1_31 : (Cond.fieldLinkNest "BlockMesh" (232 : Nat) "BlockMesh$Transactions" "ids" "[I" "BlockMesh") ∈ NWG := mo_nw (mo_t1 (List.mem_of_getElem? (i := 31) rfl)) rfl
theorem wd_1_32 : (Cond.fieldLink "BlockMesh$Transactions" (15 : Nat) "BlockMesh$Transactions" "inputCounts" "[I") ∈ WG := mo_wg (mo_t1 (List.mem_of_getElem? (i := 32) rfl)) rfl
theorem wn_1_33 : (Cond.fieldLinkNest "BlockMesh$Ledger" (91 : Nat) "BlockMesh$Transactions" "inputCounts" "[I" "BlockMesh") ∈ NWG := mo_nw (mo_t1 (List.mem_of_getElem? (i := 33) rfl)) rfl
theorem wd_1_34 : (Cond.fieldLink "BlockMesh$Transactions" (18 : Nat) "BlockMesh$Transactions" "inputSlots" "[I") ∈ WG := mo_wg (mo_t1 (List.mem_of_getElem? (i := 34) rfl)) rfl
theorem wn_1_35 : (Cond.fieldLinkNest "BlockMesh$Ledger" (94 : Nat) "BlockMesh$Transactions" "inputSlots" "[I" "BlockMesh") ∈ NWG := mo_nw (mo_t1 (List.mem_of_getElem? (i := 35) rfl)) rfl
theorem wd_1_36 : (Cond.fieldLink "BlockMesh$Transactions" (21 : Nat) "BlockMesh$Transactions" "inputFingerprints" "[I") ∈ WG := mo_wg (mo_t1 (List.mem_of_getElem? (i := 36) rfl)) rfl
theorem wd_1_37 : (Cond.fieldLink "BlockMesh$Transactions" (24 : Nat) "BlockMesh$Transactions" "inputOutputs" "[I") ∈ WG := mo_wg (mo_t1 (List.mem_of_getElem? (i := 37) rfl)) rfl
theorem wd_1_38 : (Cond.fieldLink "BlockMesh$Transactions" (27 : Nat) "BlockMesh$Transactions" "inputSecrets" "[I") ∈ WG := mo_wg (mo_t1 (List.mem_of_getElem? (i := 38) rfl)) rfl
theorem wd_1_39 : (Cond.fieldLink "BlockMesh$Transactions" (30 : Nat) "BlockMesh$Transactions" "inputLocks" "[I") ∈ WG := mo_wg (mo_t1 (List.mem_of_getElem? (i := 39) rfl)) rfl
theorem wn_1_40 : (Cond.fieldLinkNest "BlockMesh$Ledger" (110 : Nat) "BlockMesh$Transactions" "inputLocks" "[I" "BlockMesh") ∈ NWG := mo_nw (mo_t1 (List.mem_of_getElem? (i := 40) rfl)) rfl
theorem wd_1_41 : (Cond.fieldLink "BlockMesh$Transactions" (33 : Nat) "BlockMesh$Transactions" "outputCounts" "[I") ∈ WG := mo_wg (mo_t1 (List.mem_of_getElem? (i := 41) rfl)) rfl
theorem wn_1_42 : (Cond.fieldLinkNest "BlockMesh$Ledger" (97 : Nat) "BlockMesh$Transactions" "outputCounts" "[I" "BlockMesh") ∈ NWG := mo_nw (mo_t1 (List.mem_of_getElem? (i := 42) rfl)) rfl
theorem wd_1_43 : (Cond.fieldLink "BlockMesh$Transactions" (36 : Nat) "BlockMesh$Transactions" "outputLocks" "[I") ∈ WG := mo_wg (mo_t1 (List.mem_of_getElem? (i := 43) rfl)) rfl
theorem wn_1_44 : (Cond.fieldLinkNest "BlockMesh$Ledger" (113 : Nat) "BlockMesh$Transactions" "outputLocks" "[I" "BlockMesh") ∈ NWG := mo_nw (mo_t1 (List.mem_of_getElem? (i := 44) rfl)) rfl
theorem wd_1_45 : (Cond.fieldLink "BlockMesh$Transactions" (39 : Nat) "BlockMesh$Transactions" "outputAmounts" "[I") ∈ WG := mo_wg (mo_t1 (List.mem_of_getElem? (i := 45) rfl)) rfl
theorem wn_1_46 : (Cond.fieldLinkNest "BlockMesh$Ledger" (100 : Nat) "BlockMesh$Transactions" "outputAmounts" "[I" "BlockMesh") ∈ NWG := mo_nw (mo_t1 (List.mem_of_getElem? (i := 46) rfl)) rfl
theorem wd_1_47 : (Cond.lays "BlockMesh$Transactions" "BlockMesh$Transactions" "made" "I") ∈ WG := mo_wg (mo_t1 (List.mem_of_getElem? (i := 47) rfl)) rfl
theorem wd_1_49 : (Cond.laysFinal "BlockMesh$Transactions" "BlockMesh$Transactions" "ids" "[I") ∈ WG := mo_wg (mo_t1 (List.mem_of_getElem? (i := 49) rfl)) rfl
theorem wd_1_51 : (Cond.laysFinal "BlockMesh$Transactions" "BlockMesh$Transactions" "inputCounts" "[I") ∈ WG := mo_wg (mo_t1 (List.mem_of_getElem? (i := 51) rfl)) rfl
theorem wd_1_53 : (Cond.laysFinal "BlockMesh$Transactions" "BlockMesh$Transactions" "inputSlots" "[I") ∈ WG := mo_wg (mo_t1 (List.mem_of_getElem? (i := 53) rfl)) rfl
theorem wd_1_55 : (Cond.laysFinal "BlockMesh$Transactions" "BlockMesh$Transactions" "inputFingerprints" "[I") ∈ WG := mo_wg (mo_t1 (List.mem_of_getElem? (i := 55) rfl)) rfl
theorem wd_1_57 : (Cond.laysFinal "BlockMesh$Transactions" "BlockMesh$Transactions" "inputOutputs" "[I") ∈ WG := mo_wg (mo_t1 (List.mem_of_getElem? (i := 57) rfl)) rfl
theorem wd_1_59 : (Cond.laysFinal "BlockMesh$Transactions" "BlockMesh$Transactions" "inputSecrets" "[I") ∈ WG := mo_wg (mo_t1 (List.mem_of_getElem? (i := 59) rfl)) rfl
theorem wd_1_61 : (Cond.laysFinal "BlockMesh$Transactions" "BlockMesh$Transactions" "inputLocks" "[I") ∈ WG := mo_wg (mo_t1 (List.mem_of_getElem? (i := 61) rfl)) rfl
theorem wd_1_63 : (Cond.laysFinal "BlockMesh$Transactions" "BlockMesh$Transactions" "outputCounts" "[I") ∈ WG := mo_wg (mo_t1 (List.mem_of_getElem? (i := 63) rfl)) rfl
theorem wd_1_65 : (Cond.laysFinal "BlockMesh$Transactions" "BlockMesh$Transactions" "outputLocks" "[I") ∈ WG := mo_wg (mo_t1 (List.mem_of_getElem? (i := 65) rfl)) rfl
theorem wd_1_67 : (Cond.laysFinal "BlockMesh$Transactions" "BlockMesh$Transactions" "outputAmounts" "[I") ∈ WG := mo_wg (mo_t1 (List.mem_of_getElem? (i := 67) rfl)) rfl
theorem wd_1_70 : (Cond.arrayClass FieldType.int) ∈ WG := mo_wg (mo_t1 (List.mem_of_getElem? (i := 70) rfl)) rfl
theorem wd_1_71 : (Cond.classLink "BlockMesh" (16 : Nat) "BlockMesh$Blocks") ∈ WG := mo_wg (mo_t1 (List.mem_of_getElem? (i := 71) rfl)) rfl
theorem wd_1_72 : (Cond.instantiable "BlockMesh$Blocks" (7 : Nat)) ∈ WG := mo_wg (mo_t1 (List.mem_of_getElem? (i := 72) rfl)) rfl
theorem wd_1_73 : (Cond.methodLink "BlockMesh" (18 : Nat) ({ cls := "BlockMesh$Blocks", name := "<init>", desc := "()V" } : MethodName)) ∈ WG := mo_wg (mo_t1 (List.mem_of_getElem? (i := 73) rfl)) rfl
theorem wd_1_74 : (Cond.instanceMethod ({ cls := "BlockMesh$Blocks", name := "<init>", desc := "()V" } : MethodName)) ∈ WG := mo_wg (mo_t1 (List.mem_of_getElem? (i := 74) rfl)) rfl
theorem wd_1_75 : (Cond.code ({ cls := "BlockMesh$Blocks", name := "<init>", desc := "()V" } : MethodName) prog_3_method_1_code (1 : Nat) (Option.none : Option FieldType)) ∈ WG := mo_wg (mo_t1 (List.mem_of_getElem? (i := 75) rfl)) rfl
theorem wd_1_76 : (Cond.methodLink "BlockMesh$Blocks" (3 : Nat) ({ cls := "java/lang/Object", name := "<init>", desc := "()V" } : MethodName)) ∈ WG := mo_wg (mo_t1 (List.mem_of_getElem? (i := 76) rfl)) rfl
theorem wn_1_77 : (Cond.methodLinkNest "BlockMesh$Blocks" (30 : Nat) ({ cls := "BlockMesh", name := "mix", desc := "(II)I" } : MethodName) "BlockMesh") ∈ NWG := mo_nw (mo_t1 (List.mem_of_getElem? (i := 77) rfl)) rfl
theorem wd_1_78 : (Cond.static ({ cls := "BlockMesh", name := "mix", desc := "(II)I" } : MethodName)) ∈ WG := mo_wg (mo_t1 (List.mem_of_getElem? (i := 78) rfl)) rfl
theorem wd_1_79 : (Cond.code ({ cls := "BlockMesh", name := "mix", desc := "(II)I" } : MethodName) prog_1_method_28_code (3 : Nat) (Option.some FieldType.int)) ∈ WG := mo_wg (mo_t1 (List.mem_of_getElem? (i := 79) rfl)) rfl
theorem wd_1_80 : (Cond.constant "BlockMesh" (262 : Nat) (668265263 : Int32)) ∈ WG := mo_wg (mo_t1 (List.mem_of_getElem? (i := 80) rfl)) rfl
theorem wd_1_81 : (Cond.constant "BlockMesh$Blocks" (34 : Nat) (2147483647 : Int32)) ∈ WG := mo_wg (mo_t1 (List.mem_of_getElem? (i := 81) rfl)) rfl
theorem wd_1_82 : (Cond.fieldLink "BlockMesh$Blocks" (35 : Nat) "BlockMesh$Blocks" "made" "I") ∈ WG := mo_wg (mo_t1 (List.mem_of_getElem? (i := 82) rfl)) rfl
theorem wn_1_83 : (Cond.fieldLinkNest "BlockMesh$Dag" (72 : Nat) "BlockMesh$Blocks" "made" "I" "BlockMesh") ∈ NWG := mo_nw (mo_t1 (List.mem_of_getElem? (i := 83) rfl)) rfl
theorem wn_1_84 : (Cond.fieldLinkNest "BlockMesh" (222 : Nat) "BlockMesh$Blocks" "made" "I" "BlockMesh") ∈ NWG := mo_nw (mo_t1 (List.mem_of_getElem? (i := 84) rfl)) rfl
theorem wd_1_85 : (Cond.fieldLink "BlockMesh$Blocks" (9 : Nat) "BlockMesh$Blocks" "parentCounts" "[I") ∈ WG := mo_wg (mo_t1 (List.mem_of_getElem? (i := 85) rfl)) rfl
theorem wn_1_86 : (Cond.fieldLinkNest "BlockMesh" (213 : Nat) "BlockMesh$Blocks" "parentCounts" "[I" "BlockMesh") ∈ NWG := mo_nw (mo_t1 (List.mem_of_getElem? (i := 86) rfl)) rfl
theorem wd_1_87 : (Cond.fieldLink "BlockMesh$Blocks" (15 : Nat) "BlockMesh$Blocks" "parents" "[I") ∈ WG := mo_wg (mo_t1 (List.mem_of_getElem? (i := 87) rfl)) rfl
theorem wd_1_88 : (Cond.fieldLink "BlockMesh$Blocks" (18 : Nat) "BlockMesh$Blocks" "includedCounts" "[I") ∈ WG := mo_wg (mo_t1 (List.mem_of_getElem? (i := 88) rfl)) rfl
theorem wn_1_89 : (Cond.fieldLinkNest "BlockMesh$Ledger" (48 : Nat) "BlockMesh$Blocks" "includedCounts" "[I" "BlockMesh") ∈ NWG := mo_nw (mo_t1 (List.mem_of_getElem? (i := 89) rfl)) rfl
theorem wd_1_90 : (Cond.fieldLink "BlockMesh$Blocks" (21 : Nat) "BlockMesh$Blocks" "included" "[I") ∈ WG := mo_wg (mo_t1 (List.mem_of_getElem? (i := 90) rfl)) rfl
theorem wd_1_91 : (Cond.fieldLink "BlockMesh$Blocks" (24 : Nat) "BlockMesh$Blocks" "locks" "[I") ∈ WG := mo_wg (mo_t1 (List.mem_of_getElem? (i := 91) rfl)) rfl
theorem wn_1_92 : (Cond.fieldLinkNest "BlockMesh$Ledger" (116 : Nat) "BlockMesh$Blocks" "locks" "[I" "BlockMesh") ∈ NWG := mo_nw (mo_t1 (List.mem_of_getElem? (i := 92) rfl)) rfl
theorem wd_1_93 : (Cond.fieldLink "BlockMesh$Blocks" (27 : Nat) "BlockMesh$Blocks" "hashes" "[I") ∈ WG := mo_wg (mo_t1 (List.mem_of_getElem? (i := 93) rfl)) rfl
theorem wn_1_94 : (Cond.fieldLinkNest "BlockMesh" (176 : Nat) "BlockMesh$Blocks" "hashes" "[I" "BlockMesh") ∈ NWG := mo_nw (mo_t1 (List.mem_of_getElem? (i := 94) rfl)) rfl
theorem wd_1_95 : (Cond.lays "BlockMesh$Blocks" "BlockMesh$Blocks" "made" "I") ∈ WG := mo_wg (mo_t1 (List.mem_of_getElem? (i := 95) rfl)) rfl
theorem wd_1_97 : (Cond.laysFinal "BlockMesh$Blocks" "BlockMesh$Blocks" "parentCounts" "[I") ∈ WG := mo_wg (mo_t1 (List.mem_of_getElem? (i := 97) rfl)) rfl
theorem wd_1_99 : (Cond.laysFinal "BlockMesh$Blocks" "BlockMesh$Blocks" "parents" "[I") ∈ WG := mo_wg (mo_t1 (List.mem_of_getElem? (i := 99) rfl)) rfl
theorem wd_1_101 : (Cond.laysFinal "BlockMesh$Blocks" "BlockMesh$Blocks" "includedCounts" "[I") ∈ WG := mo_wg (mo_t1 (List.mem_of_getElem? (i := 101) rfl)) rfl
theorem wd_1_103 : (Cond.laysFinal "BlockMesh$Blocks" "BlockMesh$Blocks" "included" "[I") ∈ WG := mo_wg (mo_t1 (List.mem_of_getElem? (i := 103) rfl)) rfl
theorem wd_1_105 : (Cond.laysFinal "BlockMesh$Blocks" "BlockMesh$Blocks" "locks" "[I") ∈ WG := mo_wg (mo_t1 (List.mem_of_getElem? (i := 105) rfl)) rfl
theorem wd_1_107 : (Cond.laysFinal "BlockMesh$Blocks" "BlockMesh$Blocks" "hashes" "[I") ∈ WG := mo_wg (mo_t1 (List.mem_of_getElem? (i := 107) rfl)) rfl
theorem wd_1_110 : (Cond.classLink "BlockMesh" (23 : Nat) "BlockMesh$BlockPlan") ∈ WG := mo_wg (mo_t1 (List.mem_of_getElem? (i := 110) rfl)) rfl
theorem wd_1_111 : (Cond.instantiable "BlockMesh$BlockPlan" (2 : Nat)) ∈ WG := mo_wg (mo_t1 (List.mem_of_getElem? (i := 111) rfl)) rfl
theorem wn_1_112 : (Cond.methodLinkNest "BlockMesh" (25 : Nat) ({ cls := "BlockMesh$BlockPlan", name := "<init>", desc := "()V" } : MethodName) "BlockMesh") ∈ NWG := mo_nw (mo_t1 (List.mem_of_getElem? (i := 112) rfl)) rfl
theorem wd_1_113 : (Cond.instanceMethod ({ cls := "BlockMesh$BlockPlan", name := "<init>", desc := "()V" } : MethodName)) ∈ WG := mo_wg (mo_t1 (List.mem_of_getElem? (i := 113) rfl)) rfl
theorem wd_1_114 : (Cond.code ({ cls := "BlockMesh$BlockPlan", name := "<init>", desc := "()V" } : MethodName) prog_2_method_1_code (1 : Nat) (Option.none : Option FieldType)) ∈ WG := mo_wg (mo_t1 (List.mem_of_getElem? (i := 114) rfl)) rfl
theorem wd_1_115 : (Cond.methodLink "BlockMesh$BlockPlan" (3 : Nat) ({ cls := "java/lang/Object", name := "<init>", desc := "()V" } : MethodName)) ∈ WG := mo_wg (mo_t1 (List.mem_of_getElem? (i := 115) rfl)) rfl
theorem wd_1_116 : (Cond.classLink "BlockMesh$BlockPlan" (9 : Nat) "BlockMesh$Numbers") ∈ WG := mo_wg (mo_t1 (List.mem_of_getElem? (i := 116) rfl)) rfl
theorem wd_1_117 : (Cond.instantiable "BlockMesh$Numbers" (2 : Nat)) ∈ WG := mo_wg (mo_t1 (List.mem_of_getElem? (i := 117) rfl)) rfl
theorem wd_1_118 : (Cond.methodLink "BlockMesh$BlockPlan" (11 : Nat) ({ cls := "BlockMesh$Numbers", name := "<init>", desc := "(I)V" } : MethodName)) ∈ WG := mo_wg (mo_t1 (List.mem_of_getElem? (i := 118) rfl)) rfl
theorem wd_1_119 : (Cond.instanceMethod ({ cls := "BlockMesh$Numbers", name := "<init>", desc := "(I)V" } : MethodName)) ∈ WG := mo_wg (mo_t1 (List.mem_of_getElem? (i := 119) rfl)) rfl
theorem wd_1_120 : (Cond.code ({ cls := "BlockMesh$Numbers", name := "<init>", desc := "(I)V" } : MethodName) prog_6_method_1_code (2 : Nat) (Option.none : Option FieldType)) ∈ WG := mo_wg (mo_t1 (List.mem_of_getElem? (i := 120) rfl)) rfl
theorem wd_1_121 : (Cond.methodLink "BlockMesh$Numbers" (3 : Nat) ({ cls := "java/lang/Object", name := "<init>", desc := "()V" } : MethodName)) ∈ WG := mo_wg (mo_t1 (List.mem_of_getElem? (i := 121) rfl)) rfl
theorem wd_1_122 : (Cond.fieldLink "BlockMesh$Numbers" (9 : Nat) "BlockMesh$Numbers" "held" "[I") ∈ WG := mo_wg (mo_t1 (List.mem_of_getElem? (i := 122) rfl)) rfl
theorem wd_1_123 : (Cond.fieldLink "BlockMesh$Numbers" (15 : Nat) "BlockMesh$Numbers" "size" "I") ∈ WG := mo_wg (mo_t1 (List.mem_of_getElem? (i := 123) rfl)) rfl
theorem wn_1_124 : (Cond.fieldLinkNest "BlockMesh$BlockPlan" (23 : Nat) "BlockMesh$Numbers" "size" "I" "BlockMesh") ∈ NWG := mo_nw (mo_t1 (List.mem_of_getElem? (i := 124) rfl)) rfl
theorem wn_1_125 : (Cond.fieldLinkNest "BlockMesh" (112 : Nat) "BlockMesh$Numbers" "size" "I" "BlockMesh") ∈ NWG := mo_nw (mo_t1 (List.mem_of_getElem? (i := 125) rfl)) rfl
theorem wn_1_126 : (Cond.fieldLinkNest "BlockMesh$Blocks" (52 : Nat) "BlockMesh$Numbers" "size" "I" "BlockMesh") ∈ NWG := mo_nw (mo_t1 (List.mem_of_getElem? (i := 126) rfl)) rfl
theorem wd_1_127 : (Cond.laysFinal "BlockMesh$Numbers" "BlockMesh$Numbers" "held" "[I") ∈ WG := mo_wg (mo_t1 (List.mem_of_getElem? (i := 127) rfl)) rfl
theorem wd_1_129 : (Cond.lays "BlockMesh$Numbers" "BlockMesh$Numbers" "size" "I") ∈ WG := mo_wg (mo_t1 (List.mem_of_getElem? (i := 129) rfl)) rfl
theorem wd_1_132 : (Cond.fieldLink "BlockMesh$BlockPlan" (14 : Nat) "BlockMesh$BlockPlan" "parents" "LBlockMesh$Numbers;") ∈ WG := mo_wg (mo_t1 (List.mem_of_getElem? (i := 132) rfl)) rfl
theorem wn_1_133 : (Cond.fieldLinkNest "BlockMesh" (102 : Nat) "BlockMesh$BlockPlan" "parents" "LBlockMesh$Numbers;" "BlockMesh") ∈ NWG := mo_nw (mo_t1 (List.mem_of_getElem? (i := 133) rfl)) rfl
theorem wn_1_134 : (Cond.fieldLinkNest "BlockMesh$Blocks" (47 : Nat) "BlockMesh$BlockPlan" "parents" "LBlockMesh$Numbers;" "BlockMesh") ∈ NWG := mo_nw (mo_t1 (List.mem_of_getElem? (i := 134) rfl)) rfl
theorem wd_1_135 : (Cond.fieldLink "BlockMesh$BlockPlan" (20 : Nat) "BlockMesh$BlockPlan" "included" "LBlockMesh$Numbers;") ∈ WG := mo_wg (mo_t1 (List.mem_of_getElem? (i := 135) rfl)) rfl
theorem wn_1_136 : (Cond.fieldLinkNest "BlockMesh" (109 : Nat) "BlockMesh$BlockPlan" "included" "LBlockMesh$Numbers;" "BlockMesh") ∈ NWG := mo_nw (mo_t1 (List.mem_of_getElem? (i := 136) rfl)) rfl
theorem wn_1_137 : (Cond.fieldLinkNest "BlockMesh$Blocks" (61 : Nat) "BlockMesh$BlockPlan" "included" "LBlockMesh$Numbers;" "BlockMesh") ∈ NWG := mo_nw (mo_t1 (List.mem_of_getElem? (i := 137) rfl)) rfl
theorem wd_1_138 : (Cond.laysFinal "BlockMesh$BlockPlan" "BlockMesh$BlockPlan" "parents" "LBlockMesh$Numbers;") ∈ WG := mo_wg (mo_t1 (List.mem_of_getElem? (i := 138) rfl)) rfl
theorem wd_1_140 : (Cond.laysFinal "BlockMesh$BlockPlan" "BlockMesh$BlockPlan" "included" "LBlockMesh$Numbers;") ∈ WG := mo_wg (mo_t1 (List.mem_of_getElem? (i := 140) rfl)) rfl
theorem wd_1_143 : (Cond.classLink "BlockMesh" (33 : Nat) "BlockMesh$Dag") ∈ WG := mo_wg (mo_t1 (List.mem_of_getElem? (i := 143) rfl)) rfl
theorem wd_1_144 : (Cond.instantiable "BlockMesh$Dag" (11 : Nat)) ∈ WG := mo_wg (mo_t1 (List.mem_of_getElem? (i := 144) rfl)) rfl
theorem wd_1_145 : (Cond.methodLink "BlockMesh" (35 : Nat) ({ cls := "BlockMesh$Dag", name := "<init>", desc := "(LBlockMesh$Blocks;I)V" } : MethodName)) ∈ WG := mo_wg (mo_t1 (List.mem_of_getElem? (i := 145) rfl)) rfl
theorem wd_1_146 : (Cond.instanceMethod ({ cls := "BlockMesh$Dag", name := "<init>", desc := "(LBlockMesh$Blocks;I)V" } : MethodName)) ∈ WG := mo_wg (mo_t1 (List.mem_of_getElem? (i := 146) rfl)) rfl
theorem wd_1_147 : (Cond.code ({ cls := "BlockMesh$Dag", name := "<init>", desc := "(LBlockMesh$Blocks;I)V" } : MethodName) prog_4_method_1_code (3 : Nat) (Option.none : Option FieldType)) ∈ WG := mo_wg (mo_t1 (List.mem_of_getElem? (i := 147) rfl)) rfl
theorem wd_1_148 : (Cond.methodLink "BlockMesh$Dag" (3 : Nat) ({ cls := "java/lang/Object", name := "<init>", desc := "()V" } : MethodName)) ∈ WG := mo_wg (mo_t1 (List.mem_of_getElem? (i := 148) rfl)) rfl
theorem wd_1_149 : (Cond.fieldLink "BlockMesh$Dag" (34 : Nat) "BlockMesh$Dag" "blocks" "LBlockMesh$Blocks;") ∈ WG := mo_wg (mo_t1 (List.mem_of_getElem? (i := 149) rfl)) rfl
theorem wd_1_150 : (Cond.fieldLink "BlockMesh$Dag" (38 : Nat) "BlockMesh$Dag" "k" "I") ∈ WG := mo_wg (mo_t1 (List.mem_of_getElem? (i := 150) rfl)) rfl
theorem wd_1_151 : (Cond.fieldLink "BlockMesh$Dag" (42 : Nat) "BlockMesh$Dag" "members" "J") ∈ WG := mo_wg (mo_t1 (List.mem_of_getElem? (i := 151) rfl)) rfl
theorem wn_1_152 : (Cond.fieldLinkNest "BlockMesh" (245 : Nat) "BlockMesh$Dag" "members" "J" "BlockMesh") ∈ NWG := mo_nw (mo_t1 (List.mem_of_getElem? (i := 152) rfl)) rfl
theorem wn_1_153 : (Cond.fieldLinkNest "BlockMesh" (130 : Nat) "BlockMesh$Dag" "tips" "J" "BlockMesh") ∈ NWG := mo_nw (mo_t1 (List.mem_of_getElem? (i := 153) rfl)) rfl
theorem wd_1_154 : (Cond.fieldLink "BlockMesh$Dag" (86 : Nat) "BlockMesh$Dag" "tips" "J") ∈ WG := mo_wg (mo_t1 (List.mem_of_getElem? (i := 154) rfl)) rfl
theorem wd_1_155 : (Cond.fieldLink "BlockMesh$Dag" (9 : Nat) "BlockMesh$Dag" "past" "[J") ∈ WG := mo_wg (mo_t1 (List.mem_of_getElem? (i := 155) rfl)) rfl
theorem wd_1_156 : (Cond.fieldLink "BlockMesh$Dag" (15 : Nat) "BlockMesh$Dag" "future" "[J") ∈ WG := mo_wg (mo_t1 (List.mem_of_getElem? (i := 156) rfl)) rfl
theorem wd_1_157 : (Cond.fieldLink "BlockMesh$Dag" (18 : Nat) "BlockMesh$Dag" "blues" "[J") ∈ WG := mo_wg (mo_t1 (List.mem_of_getElem? (i := 157) rfl)) rfl
theorem wd_1_158 : (Cond.fieldLink "BlockMesh$Dag" (21 : Nat) "BlockMesh$Dag" "scores" "[I") ∈ WG := mo_wg (mo_t1 (List.mem_of_getElem? (i := 158) rfl)) rfl
theorem wn_1_159 : (Cond.fieldLinkNest "BlockMesh$Ledger" (70 : Nat) "BlockMesh$Dag" "scores" "[I" "BlockMesh") ∈ NWG := mo_nw (mo_t1 (List.mem_of_getElem? (i := 159) rfl)) rfl
theorem wn_1_160 : (Cond.fieldLinkNest "BlockMesh" (180 : Nat) "BlockMesh$Dag" "scores" "[I" "BlockMesh") ∈ NWG := mo_nw (mo_t1 (List.mem_of_getElem? (i := 160) rfl)) rfl
theorem wd_1_161 : (Cond.fieldLink "BlockMesh$Dag" (25 : Nat) "BlockMesh$Dag" "selected" "[I") ∈ WG := mo_wg (mo_t1 (List.mem_of_getElem? (i := 161) rfl)) rfl
theorem wn_1_162 : (Cond.fieldLinkNest "BlockMesh" (183 : Nat) "BlockMesh$Dag" "selected" "[I" "BlockMesh") ∈ NWG := mo_nw (mo_t1 (List.mem_of_getElem? (i := 162) rfl)) rfl
theorem wd_1_163 : (Cond.fieldLink "BlockMesh$Dag" (28 : Nat) "BlockMesh$Dag" "sequence" "[I") ∈ WG := mo_wg (mo_t1 (List.mem_of_getElem? (i := 163) rfl)) rfl
theorem wn_1_164 : (Cond.fieldLinkNest "BlockMesh$Ledger" (45 : Nat) "BlockMesh$Dag" "sequence" "[I" "BlockMesh") ∈ NWG := mo_nw (mo_t1 (List.mem_of_getElem? (i := 164) rfl)) rfl
theorem wn_1_165 : (Cond.fieldLinkNest "BlockMesh" (199 : Nat) "BlockMesh$Dag" "sequence" "[I" "BlockMesh") ∈ NWG := mo_nw (mo_t1 (List.mem_of_getElem? (i := 165) rfl)) rfl
theorem wd_1_166 : (Cond.fieldLink "BlockMesh$Dag" (31 : Nat) "BlockMesh$Dag" "sorted" "[I") ∈ WG := mo_wg (mo_t1 (List.mem_of_getElem? (i := 166) rfl)) rfl
theorem wd_1_167 : (Cond.laysFinal "BlockMesh$Dag" "BlockMesh$Dag" "blocks" "LBlockMesh$Blocks;") ∈ WG := mo_wg (mo_t1 (List.mem_of_getElem? (i := 167) rfl)) rfl
theorem wd_1_169 : (Cond.laysFinal "BlockMesh$Dag" "BlockMesh$Dag" "k" "I") ∈ WG := mo_wg (mo_t1 (List.mem_of_getElem? (i := 169) rfl)) rfl
theorem wd_1_171 : (Cond.lays "BlockMesh$Dag" "BlockMesh$Dag" "members" "J") ∈ WG := mo_wg (mo_t1 (List.mem_of_getElem? (i := 171) rfl)) rfl
theorem wd_1_173 : (Cond.lays "BlockMesh$Dag" "BlockMesh$Dag" "tips" "J") ∈ WG := mo_wg (mo_t1 (List.mem_of_getElem? (i := 173) rfl)) rfl
theorem wd_1_175 : (Cond.laysFinal "BlockMesh$Dag" "BlockMesh$Dag" "past" "[J") ∈ WG := mo_wg (mo_t1 (List.mem_of_getElem? (i := 175) rfl)) rfl
theorem wd_1_177 : (Cond.laysFinal "BlockMesh$Dag" "BlockMesh$Dag" "future" "[J") ∈ WG := mo_wg (mo_t1 (List.mem_of_getElem? (i := 177) rfl)) rfl
theorem wd_1_179 : (Cond.laysFinal "BlockMesh$Dag" "BlockMesh$Dag" "blues" "[J") ∈ WG := mo_wg (mo_t1 (List.mem_of_getElem? (i := 179) rfl)) rfl
theorem wd_1_181 : (Cond.laysFinal "BlockMesh$Dag" "BlockMesh$Dag" "scores" "[I") ∈ WG := mo_wg (mo_t1 (List.mem_of_getElem? (i := 181) rfl)) rfl
theorem wd_1_183 : (Cond.laysFinal "BlockMesh$Dag" "BlockMesh$Dag" "selected" "[I") ∈ WG := mo_wg (mo_t1 (List.mem_of_getElem? (i := 183) rfl)) rfl
theorem wd_1_185 : (Cond.laysFinal "BlockMesh$Dag" "BlockMesh$Dag" "sequence" "[I") ∈ WG := mo_wg (mo_t1 (List.mem_of_getElem? (i := 185) rfl)) rfl
theorem wd_1_187 : (Cond.laysFinal "BlockMesh$Dag" "BlockMesh$Dag" "sorted" "[I") ∈ WG := mo_wg (mo_t1 (List.mem_of_getElem? (i := 187) rfl)) rfl
theorem wd_1_190 : (Cond.arrayClass FieldType.long) ∈ WG := mo_wg (mo_t1 (List.mem_of_getElem? (i := 190) rfl)) rfl
theorem wd_1_191 : (Cond.classLink "BlockMesh" (42 : Nat) "BlockMesh$Numbers") ∈ WG := mo_wg (mo_t1 (List.mem_of_getElem? (i := 191) rfl)) rfl
theorem wd_1_192 : (Cond.methodLink "BlockMesh" (44 : Nat) ({ cls := "BlockMesh$Numbers", name := "<init>", desc := "(I)V" } : MethodName)) ∈ WG := mo_wg (mo_t1 (List.mem_of_getElem? (i := 192) rfl)) rfl
theorem wd_1_193 : (Cond.classLink "BlockMesh" (51 : Nat) "BlockMesh$Ledger") ∈ WG := mo_wg (mo_t1 (List.mem_of_getElem? (i := 193) rfl)) rfl
theorem wd_1_194 : (Cond.instantiable "BlockMesh$Ledger" (4 : Nat)) ∈ WG := mo_wg (mo_t1 (List.mem_of_getElem? (i := 194) rfl)) rfl
theorem wd_1_195 : (Cond.methodLink "BlockMesh" (53 : Nat) ({ cls := "BlockMesh$Ledger", name := "<init>", desc := "(LBlockMesh$Transactions;LBlockMesh$Blocks;)V" } : MethodName)) ∈ WG := mo_wg (mo_t1 (List.mem_of_getElem? (i := 195) rfl)) rfl
theorem wd_1_196 : (Cond.instanceMethod ({ cls := "BlockMesh$Ledger", name := "<init>", desc := "(LBlockMesh$Transactions;LBlockMesh$Blocks;)V" } : MethodName)) ∈ WG := mo_wg (mo_t1 (List.mem_of_getElem? (i := 196) rfl)) rfl
theorem wd_1_197 : (Cond.code ({ cls := "BlockMesh$Ledger", name := "<init>", desc := "(LBlockMesh$Transactions;LBlockMesh$Blocks;)V" } : MethodName) prog_5_method_1_code (3 : Nat) (Option.none : Option FieldType)) ∈ WG := mo_wg (mo_t1 (List.mem_of_getElem? (i := 197) rfl)) rfl
theorem wd_1_198 : (Cond.methodLink "BlockMesh$Ledger" (3 : Nat) ({ cls := "java/lang/Object", name := "<init>", desc := "()V" } : MethodName)) ∈ WG := mo_wg (mo_t1 (List.mem_of_getElem? (i := 198) rfl)) rfl
theorem wd_1_199 : (Cond.fieldLink "BlockMesh$Ledger" (15 : Nat) "BlockMesh$Ledger" "transactions" "LBlockMesh$Transactions;") ∈ WG := mo_wg (mo_t1 (List.mem_of_getElem? (i := 199) rfl)) rfl
theorem wd_1_200 : (Cond.fieldLink "BlockMesh$Ledger" (19 : Nat) "BlockMesh$Ledger" "blocks" "LBlockMesh$Blocks;") ∈ WG := mo_wg (mo_t1 (List.mem_of_getElem? (i := 200) rfl)) rfl
theorem wd_1_201 : (Cond.fieldLink "BlockMesh$Ledger" (9 : Nat) "BlockMesh$Ledger" "amounts" "[I") ∈ WG := mo_wg (mo_t1 (List.mem_of_getElem? (i := 201) rfl)) rfl
theorem wn_1_202 : (Cond.fieldLinkNest "BlockMesh" (202 : Nat) "BlockMesh$Ledger" "amounts" "[I" "BlockMesh") ∈ NWG := mo_nw (mo_t1 (List.mem_of_getElem? (i := 202) rfl)) rfl
theorem wd_1_203 : (Cond.fieldLink "BlockMesh$Ledger" (29 : Nat) "BlockMesh$Ledger" "accepted" "J") ∈ WG := mo_wg (mo_t1 (List.mem_of_getElem? (i := 203) rfl)) rfl
theorem wn_1_204 : (Cond.fieldLinkNest "BlockMesh" (223 : Nat) "BlockMesh$Ledger" "accepted" "J" "BlockMesh") ∈ NWG := mo_nw (mo_t1 (List.mem_of_getElem? (i := 204) rfl)) rfl
theorem wd_1_205 : (Cond.laysFinal "BlockMesh$Ledger" "BlockMesh$Ledger" "transactions" "LBlockMesh$Transactions;") ∈ WG := mo_wg (mo_t1 (List.mem_of_getElem? (i := 205) rfl)) rfl
theorem wd_1_207 : (Cond.laysFinal "BlockMesh$Ledger" "BlockMesh$Ledger" "blocks" "LBlockMesh$Blocks;") ∈ WG := mo_wg (mo_t1 (List.mem_of_getElem? (i := 207) rfl)) rfl
theorem wd_1_209 : (Cond.laysFinal "BlockMesh$Ledger" "BlockMesh$Ledger" "amounts" "[I") ∈ WG := mo_wg (mo_t1 (List.mem_of_getElem? (i := 209) rfl)) rfl
theorem wd_1_211 : (Cond.lays "BlockMesh$Ledger" "BlockMesh$Ledger" "accepted" "J") ∈ WG := mo_wg (mo_t1 (List.mem_of_getElem? (i := 211) rfl)) rfl
theorem wd_1_214 : (Cond.methodLink "BlockMesh" (66 : Nat) ({ cls := "BlockMesh$Dag", name := "attach", desc := "(I)V" } : MethodName)) ∈ WG := mo_wg (mo_t1 (List.mem_of_getElem? (i := 214) rfl)) rfl
theorem wd_1_215 : (Cond.instanceMethod ({ cls := "BlockMesh$Dag", name := "attach", desc := "(I)V" } : MethodName)) ∈ WG := mo_wg (mo_t1 (List.mem_of_getElem? (i := 215) rfl)) rfl
theorem wd_1_216 : (Cond.selects "BlockMesh$Dag" ({ cls := "BlockMesh$Dag", name := "attach", desc := "(I)V" } : MethodName) ({ cls := "BlockMesh$Dag", name := "attach", desc := "(I)V" } : MethodName)) ∈ WG := mo_wg (mo_t1 (List.mem_of_getElem? (i := 216) rfl)) rfl
theorem wd_1_217 : (Cond.code ({ cls := "BlockMesh$Dag", name := "attach", desc := "(I)V" } : MethodName) prog_4_method_10_code (5 : Nat) (Option.none : Option FieldType)) ∈ WG := mo_wg (mo_t1 (List.mem_of_getElem? (i := 217) rfl)) rfl
theorem wd_1_218 : (Cond.methodLink "BlockMesh$Dag" (56 : Nat) ({ cls := "BlockMesh$Blocks", name := "parentSet", desc := "(I)J" } : MethodName)) ∈ WG := mo_wg (mo_t1 (List.mem_of_getElem? (i := 218) rfl)) rfl
theorem wd_1_219 : (Cond.instanceMethod ({ cls := "BlockMesh$Blocks", name := "parentSet", desc := "(I)J" } : MethodName)) ∈ WG := mo_wg (mo_t1 (List.mem_of_getElem? (i := 219) rfl)) rfl
theorem wd_1_220 : (Cond.selects "BlockMesh$Blocks" ({ cls := "BlockMesh$Blocks", name := "parentSet", desc := "(I)J" } : MethodName) ({ cls := "BlockMesh$Blocks", name := "parentSet", desc := "(I)J" } : MethodName)) ∈ WG := mo_wg (mo_t1 (List.mem_of_getElem? (i := 220) rfl)) rfl
theorem wd_1_221 : (Cond.code ({ cls := "BlockMesh$Blocks", name := "parentSet", desc := "(I)J" } : MethodName) prog_3_method_8_code (5 : Nat) (Option.some FieldType.long)) ∈ WG := mo_wg (mo_t1 (List.mem_of_getElem? (i := 221) rfl)) rfl
theorem wd_1_222 : (Cond.methodLink "BlockMesh$Blocks" (40 : Nat) ({ cls := "BlockMesh$Blocks", name := "parentAt", desc := "(II)I" } : MethodName)) ∈ WG := mo_wg (mo_t1 (List.mem_of_getElem? (i := 222) rfl)) rfl
theorem wd_1_223 : (Cond.instanceMethod ({ cls := "BlockMesh$Blocks", name := "parentAt", desc := "(II)I" } : MethodName)) ∈ WG := mo_wg (mo_t1 (List.mem_of_getElem? (i := 223) rfl)) rfl
theorem wd_1_224 : (Cond.selects "BlockMesh$Blocks" ({ cls := "BlockMesh$Blocks", name := "parentAt", desc := "(II)I" } : MethodName) ({ cls := "BlockMesh$Blocks", name := "parentAt", desc := "(II)I" } : MethodName)) ∈ WG := mo_wg (mo_t1 (List.mem_of_getElem? (i := 224) rfl)) rfl
theorem wd_1_225 : (Cond.code ({ cls := "BlockMesh$Blocks", name := "parentAt", desc := "(II)I" } : MethodName) prog_3_method_6_code (3 : Nat) (Option.some FieldType.int)) ∈ WG := mo_wg (mo_t1 (List.mem_of_getElem? (i := 225) rfl)) rfl
theorem wn_1_226 : (Cond.methodLinkNest "BlockMesh$Blocks" (43 : Nat) ({ cls := "BlockMesh", name := "bit", desc := "(I)J" } : MethodName) "BlockMesh") ∈ NWG := mo_nw (mo_t1 (List.mem_of_getElem? (i := 226) rfl)) rfl
theorem wd_1_227 : (Cond.static ({ cls := "BlockMesh", name := "bit", desc := "(I)J" } : MethodName)) ∈ WG := mo_wg (mo_t1 (List.mem_of_getElem? (i := 227) rfl)) rfl
theorem wd_1_228 : (Cond.code ({ cls := "BlockMesh", name := "bit", desc := "(I)J" } : MethodName) prog_1_method_30_code (1 : Nat) (Option.some FieldType.long)) ∈ WG := mo_wg (mo_t1 (List.mem_of_getElem? (i := 228) rfl)) rfl
theorem wd_1_229 : (Cond.methodLink "BlockMesh$Dag" (82 : Nat) ({ cls := "BlockMesh$Dag", name := "settle", desc := "(IJ)V" } : MethodName)) ∈ WG := mo_wg (mo_t1 (List.mem_of_getElem? (i := 229) rfl)) rfl
theorem wd_1_231 : (Cond.instanceMethod ({ cls := "BlockMesh$Dag", name := "settle", desc := "(IJ)V" } : MethodName)) ∈ WG := mo_wg (mo_t1 (List.mem_of_getElem? (i := 231) rfl)) rfl
theorem wd_1_232 : (Cond.code ({ cls := "BlockMesh$Dag", name := "settle", desc := "(IJ)V" } : MethodName) prog_4_method_12_code (9 : Nat) (Option.none : Option FieldType)) ∈ WG := mo_wg (mo_t1 (List.mem_of_getElem? (i := 232) rfl)) rfl
theorem wd_1_233 : (Cond.methodLink "BlockMesh$Dag" (101 : Nat) ({ cls := "BlockMesh$Dag", name := "heaviest", desc := "(J)I" } : MethodName)) ∈ WG := mo_wg (mo_t1 (List.mem_of_getElem? (i := 233) rfl)) rfl
theorem wd_1_234 : (Cond.instanceMethod ({ cls := "BlockMesh$Dag", name := "heaviest", desc := "(J)I" } : MethodName)) ∈ WG := mo_wg (mo_t1 (List.mem_of_getElem? (i := 234) rfl)) rfl
theorem wd_1_235 : (Cond.selects "BlockMesh$Dag" ({ cls := "BlockMesh$Dag", name := "heaviest", desc := "(J)I" } : MethodName) ({ cls := "BlockMesh$Dag", name := "heaviest", desc := "(J)I" } : MethodName)) ∈ WG := mo_wg (mo_t1 (List.mem_of_getElem? (i := 235) rfl)) rfl
theorem wd_1_236 : (Cond.code ({ cls := "BlockMesh$Dag", name := "heaviest", desc := "(J)I" } : MethodName) prog_4_method_8_code (5 : Nat) (Option.some FieldType.int)) ∈ WG := mo_wg (mo_t1 (List.mem_of_getElem? (i := 236) rfl)) rfl
theorem wn_1_237 : (Cond.methodLinkNest "BlockMesh$Dag" (52 : Nat) ({ cls := "BlockMesh", name := "holds", desc := "(JI)Z" } : MethodName) "BlockMesh") ∈ NWG := mo_nw (mo_t1 (List.mem_of_getElem? (i := 237) rfl)) rfl
theorem wd_1_238 : (Cond.static ({ cls := "BlockMesh", name := "holds", desc := "(JI)Z" } : MethodName)) ∈ WG := mo_wg (mo_t1 (List.mem_of_getElem? (i := 238) rfl)) rfl
theorem wd_1_239 : (Cond.code ({ cls := "BlockMesh", name := "holds", desc := "(JI)Z" } : MethodName) prog_1_method_31_code (3 : Nat) (Option.some FieldType.boolean)) ∈ WG := mo_wg (mo_t1 (List.mem_of_getElem? (i := 239) rfl)) rfl
theorem wd_2_0 : (Cond.methodLink "BlockMesh$Dag" (75 : Nat) ({ cls := "BlockMesh$Dag", name := "isHeavier", desc := "(II)Z" } : MethodName)) ∈ WG := mo_wg (mo_t2 (List.mem_of_getElem? (i := 0) rfl)) rfl
theorem wd_2_2 : (Cond.instanceMethod ({ cls := "BlockMesh$Dag", name := "isHeavier", desc := "(II)Z" } : MethodName)) ∈ WG := mo_wg (mo_t2 (List.mem_of_getElem? (i := 2) rfl)) rfl
theorem wd_2_3 : (Cond.code ({ cls := "BlockMesh$Dag", name := "isHeavier", desc := "(II)Z" } : MethodName) prog_4_method_17_code (3 : Nat) (Option.some FieldType.boolean)) ∈ WG := mo_wg (mo_t2 (List.mem_of_getElem? (i := 3) rfl)) rfl
theorem wd_2_4 : (Cond.methodLink "BlockMesh$Dag" (114 : Nat) ({ cls := "BlockMesh$Blocks", name := "isEarlier", desc := "(II)Z" } : MethodName)) ∈ WG := mo_wg (mo_t2 (List.mem_of_getElem? (i := 4) rfl)) rfl
theorem wd_2_5 : (Cond.instanceMethod ({ cls := "BlockMesh$Blocks", name := "isEarlier", desc := "(II)Z" } : MethodName)) ∈ WG := mo_wg (mo_t2 (List.mem_of_getElem? (i := 5) rfl)) rfl
theorem wd_2_6 : (Cond.selects "BlockMesh$Blocks" ({ cls := "BlockMesh$Blocks", name := "isEarlier", desc := "(II)Z" } : MethodName) ({ cls := "BlockMesh$Blocks", name := "isEarlier", desc := "(II)Z" } : MethodName)) ∈ WG := mo_wg (mo_t2 (List.mem_of_getElem? (i := 6) rfl)) rfl
theorem wd_2_7 : (Cond.code ({ cls := "BlockMesh$Blocks", name := "isEarlier", desc := "(II)Z" } : MethodName) prog_3_method_5_code (3 : Nat) (Option.some FieldType.boolean)) ∈ WG := mo_wg (mo_t2 (List.mem_of_getElem? (i := 7) rfl)) rfl
theorem wd_2_8 : (Cond.methodLink "BlockMesh$Dag" (64 : Nat) ({ cls := "BlockMesh$Dag", name := "pastOf", desc := "(J)J" } : MethodName)) ∈ WG := mo_wg (mo_t2 (List.mem_of_getElem? (i := 8) rfl)) rfl
theorem wd_2_10 : (Cond.instanceMethod ({ cls := "BlockMesh$Dag", name := "pastOf", desc := "(J)J" } : MethodName)) ∈ WG := mo_wg (mo_t2 (List.mem_of_getElem? (i := 10) rfl)) rfl
theorem wd_2_11 : (Cond.code ({ cls := "BlockMesh$Dag", name := "pastOf", desc := "(J)J" } : MethodName) prog_4_method_15_code (6 : Nat) (Option.some FieldType.long)) ∈ WG := mo_wg (mo_t2 (List.mem_of_getElem? (i := 11) rfl)) rfl
theorem wn_2_12 : (Cond.methodLinkNest "BlockMesh$Dag" (79 : Nat) ({ cls := "BlockMesh", name := "bit", desc := "(I)J" } : MethodName) "BlockMesh") ∈ NWG := mo_nw (mo_t2 (List.mem_of_getElem? (i := 12) rfl)) rfl
theorem wd_2_13 : (Cond.methodLink "BlockMesh$Dag" (89 : Nat) ({ cls := "BlockMesh$Dag", name := "mergedBy", desc := "(I)J" } : MethodName)) ∈ WG := mo_wg (mo_t2 (List.mem_of_getElem? (i := 13) rfl)) rfl
theorem wd_2_14 : (Cond.instanceMethod ({ cls := "BlockMesh$Dag", name := "mergedBy", desc := "(I)J" } : MethodName)) ∈ WG := mo_wg (mo_t2 (List.mem_of_getElem? (i := 14) rfl)) rfl
theorem wd_2_15 : (Cond.selects "BlockMesh$Dag" ({ cls := "BlockMesh$Dag", name := "mergedBy", desc := "(I)J" } : MethodName) ({ cls := "BlockMesh$Dag", name := "mergedBy", desc := "(I)J" } : MethodName)) ∈ WG := mo_wg (mo_t2 (List.mem_of_getElem? (i := 15) rfl)) rfl
theorem wd_2_16 : (Cond.code ({ cls := "BlockMesh$Dag", name := "mergedBy", desc := "(I)J" } : MethodName) prog_4_method_9_code (3 : Nat) (Option.some FieldType.long)) ∈ WG := mo_wg (mo_t2 (List.mem_of_getElem? (i := 16) rfl)) rfl
theorem wd_2_17 : (Cond.constantLong "BlockMesh$Dag" (62 : Nat) (-1 : Int64)) ∈ WG := mo_wg (mo_t2 (List.mem_of_getElem? (i := 17) rfl)) rfl
theorem wd_2_18 : (Cond.methodLink "BlockMesh$Dag" (92 : Nat) ({ cls := "BlockMesh$Dag", name := "sortByScore", desc := "(J)I" } : MethodName)) ∈ WG := mo_wg (mo_t2 (List.mem_of_getElem? (i := 18) rfl)) rfl
theorem wd_2_20 : (Cond.instanceMethod ({ cls := "BlockMesh$Dag", name := "sortByScore", desc := "(J)I" } : MethodName)) ∈ WG := mo_wg (mo_t2 (List.mem_of_getElem? (i := 20) rfl)) rfl
theorem wd_2_21 : (Cond.code ({ cls := "BlockMesh$Dag", name := "sortByScore", desc := "(J)I" } : MethodName) prog_4_method_16_code (6 : Nat) (Option.some FieldType.int)) ∈ WG := mo_wg (mo_t2 (List.mem_of_getElem? (i := 21) rfl)) rfl
theorem wd_2_22 : (Cond.methodLink "BlockMesh$Dag" (111 : Nat) ({ cls := "BlockMesh$Dag", name := "isBefore", desc := "(II)Z" } : MethodName)) ∈ WG := mo_wg (mo_t2 (List.mem_of_getElem? (i := 22) rfl)) rfl
theorem wd_2_24 : (Cond.instanceMethod ({ cls := "BlockMesh$Dag", name := "isBefore", desc := "(II)Z" } : MethodName)) ∈ WG := mo_wg (mo_t2 (List.mem_of_getElem? (i := 24) rfl)) rfl
theorem wd_2_25 : (Cond.code ({ cls := "BlockMesh$Dag", name := "isBefore", desc := "(II)Z" } : MethodName) prog_4_method_18_code (3 : Nat) (Option.some FieldType.boolean)) ∈ WG := mo_wg (mo_t2 (List.mem_of_getElem? (i := 25) rfl)) rfl
theorem wd_2_26 : (Cond.methodLink "BlockMesh$Dag" (104 : Nat) ({ cls := "BlockMesh$Dag", name := "fits", desc := "(IJ)Z" } : MethodName)) ∈ WG := mo_wg (mo_t2 (List.mem_of_getElem? (i := 26) rfl)) rfl
theorem wd_2_28 : (Cond.instanceMethod ({ cls := "BlockMesh$Dag", name := "fits", desc := "(IJ)Z" } : MethodName)) ∈ WG := mo_wg (mo_t2 (List.mem_of_getElem? (i := 28) rfl)) rfl
theorem wd_2_29 : (Cond.code ({ cls := "BlockMesh$Dag", name := "fits", desc := "(IJ)Z" } : MethodName) prog_4_method_13_code (7 : Nat) (Option.some FieldType.boolean)) ∈ WG := mo_wg (mo_t2 (List.mem_of_getElem? (i := 29) rfl)) rfl
theorem wd_2_30 : (Cond.methodLink "BlockMesh$Dag" (108 : Nat) ({ cls := "BlockMesh$Dag", name := "anticone", desc := "(I)J" } : MethodName)) ∈ WG := mo_wg (mo_t2 (List.mem_of_getElem? (i := 30) rfl)) rfl
theorem wd_2_32 : (Cond.instanceMethod ({ cls := "BlockMesh$Dag", name := "anticone", desc := "(I)J" } : MethodName)) ∈ WG := mo_wg (mo_t2 (List.mem_of_getElem? (i := 32) rfl)) rfl
theorem wd_2_33 : (Cond.code ({ cls := "BlockMesh$Dag", name := "anticone", desc := "(I)J" } : MethodName) prog_4_method_14_code (2 : Nat) (Option.some FieldType.long)) ∈ WG := mo_wg (mo_t2 (List.mem_of_getElem? (i := 33) rfl)) rfl
theorem wd_2_34 : (Cond.methodLink "BlockMesh$Dag" (46 : Nat) ({ cls := "java/lang/Long", name := "bitCount", desc := "(J)I" } : MethodName)) ∈ WG := mo_wg (mo_t2 (List.mem_of_getElem? (i := 34) rfl)) rfl
theorem wd_2_35 : (Cond.static ({ cls := "java/lang/Long", name := "bitCount", desc := "(J)I" } : MethodName)) ∈ WG := mo_wg (mo_t2 (List.mem_of_getElem? (i := 35) rfl)) rfl
theorem wd_2_36 : (Cond.code ({ cls := "java/lang/Long", name := "bitCount", desc := "(J)I" } : MethodName) prog_10_method_50_code (2 : Nat) (Option.some FieldType.int)) ∈ WG := mo_wg (mo_t2 (List.mem_of_getElem? (i := 36) rfl)) rfl
theorem wd_2_37 : (Cond.constantLong "java/lang/Long" (314 : Nat) (6148914691236517205 : Int64)) ∈ WG := mo_wg (mo_t2 (List.mem_of_getElem? (i := 37) rfl)) rfl
theorem wd_2_38 : (Cond.constantLong "java/lang/Long" (316 : Nat) (3689348814741910323 : Int64)) ∈ WG := mo_wg (mo_t2 (List.mem_of_getElem? (i := 38) rfl)) rfl
theorem wd_2_39 : (Cond.constantLong "java/lang/Long" (318 : Nat) (1085102592571150095 : Int64)) ∈ WG := mo_wg (mo_t2 (List.mem_of_getElem? (i := 39) rfl)) rfl
theorem wd_2_40 : (Cond.methodLink "BlockMesh" (69 : Nat) ({ cls := "BlockMesh", name := "followDag", desc := "()V" } : MethodName)) ∈ WG := mo_wg (mo_t2 (List.mem_of_getElem? (i := 40) rfl)) rfl
theorem wd_2_42 : (Cond.instanceMethod ({ cls := "BlockMesh", name := "followDag", desc := "()V" } : MethodName)) ∈ WG := mo_wg (mo_t2 (List.mem_of_getElem? (i := 42) rfl)) rfl
theorem wd_2_43 : (Cond.code ({ cls := "BlockMesh", name := "followDag", desc := "()V" } : MethodName) prog_1_method_27_code (4 : Nat) (Option.none : Option FieldType)) ∈ WG := mo_wg (mo_t2 (List.mem_of_getElem? (i := 43) rfl)) rfl
theorem wd_2_44 : (Cond.methodLink "BlockMesh" (251 : Nat) ({ cls := "BlockMesh$Dag", name := "settleVirtual", desc := "()V" } : MethodName)) ∈ WG := mo_wg (mo_t2 (List.mem_of_getElem? (i := 44) rfl)) rfl
theorem wd_2_45 : (Cond.instanceMethod ({ cls := "BlockMesh$Dag", name := "settleVirtual", desc := "()V" } : MethodName)) ∈ WG := mo_wg (mo_t2 (List.mem_of_getElem? (i := 45) rfl)) rfl
theorem wd_2_46 : (Cond.selects "BlockMesh$Dag" ({ cls := "BlockMesh$Dag", name := "settleVirtual", desc := "()V" } : MethodName) ({ cls := "BlockMesh$Dag", name := "settleVirtual", desc := "()V" } : MethodName)) ∈ WG := mo_wg (mo_t2 (List.mem_of_getElem? (i := 46) rfl)) rfl
theorem wd_2_47 : (Cond.code ({ cls := "BlockMesh$Dag", name := "settleVirtual", desc := "()V" } : MethodName) prog_4_method_11_code (5 : Nat) (Option.none : Option FieldType)) ∈ WG := mo_wg (mo_t2 (List.mem_of_getElem? (i := 47) rfl)) rfl
theorem wd_2_48 : (Cond.methodLink "BlockMesh$Dag" (68 : Nat) ({ cls := "BlockMesh$Dag", name := "size", desc := "()I" } : MethodName)) ∈ WG := mo_wg (mo_t2 (List.mem_of_getElem? (i := 48) rfl)) rfl
theorem wd_2_49 : (Cond.instanceMethod ({ cls := "BlockMesh$Dag", name := "size", desc := "()I" } : MethodName)) ∈ WG := mo_wg (mo_t2 (List.mem_of_getElem? (i := 49) rfl)) rfl
theorem wd_2_50 : (Cond.selects "BlockMesh$Dag" ({ cls := "BlockMesh$Dag", name := "size", desc := "()I" } : MethodName) ({ cls := "BlockMesh$Dag", name := "size", desc := "()I" } : MethodName)) ∈ WG := mo_wg (mo_t2 (List.mem_of_getElem? (i := 50) rfl)) rfl
theorem wd_2_51 : (Cond.code ({ cls := "BlockMesh$Dag", name := "size", desc := "()I" } : MethodName) prog_4_method_2_code (1 : Nat) (Option.some FieldType.int)) ∈ WG := mo_wg (mo_t2 (List.mem_of_getElem? (i := 51) rfl)) rfl
theorem wd_2_52 : (Cond.methodLink "BlockMesh$Dag" (95 : Nat) ({ cls := "java/lang/System", name := "arraycopy", desc := "(Ljava/lang/Object;ILjava/lang/Object;II)V" } : MethodName)) ∈ WG := mo_wg (mo_t2 (List.mem_of_getElem? (i := 52) rfl)) rfl
theorem wd_2_53 : (Cond.static ({ cls := "java/lang/System", name := "arraycopy", desc := "(Ljava/lang/Object;ILjava/lang/Object;II)V" } : MethodName)) ∈ WG := mo_wg (mo_t2 (List.mem_of_getElem? (i := 53) rfl)) rfl
theorem wd_2_54 : (Cond.native ({ cls := "java/lang/System", name := "arraycopy", desc := "(Ljava/lang/Object;ILjava/lang/Object;II)V" } : MethodName)) ∈ WG := mo_wg (mo_t2 (List.mem_of_getElem? (i := 54) rfl)) rfl
theorem wd_2_55 : (Cond.methodLink "BlockMesh" (254 : Nat) ({ cls := "BlockMesh$Ledger", name := "replay", desc := "(LBlockMesh$Dag;)V" } : MethodName)) ∈ WG := mo_wg (mo_t2 (List.mem_of_getElem? (i := 55) rfl)) rfl
theorem wd_2_56 : (Cond.instanceMethod ({ cls := "BlockMesh$Ledger", name := "replay", desc := "(LBlockMesh$Dag;)V" } : MethodName)) ∈ WG := mo_wg (mo_t2 (List.mem_of_getElem? (i := 56) rfl)) rfl
theorem wd_2_57 : (Cond.selects "BlockMesh$Ledger" ({ cls := "BlockMesh$Ledger", name := "replay", desc := "(LBlockMesh$Dag;)V" } : MethodName) ({ cls := "BlockMesh$Ledger", name := "replay", desc := "(LBlockMesh$Dag;)V" } : MethodName)) ∈ WG := mo_wg (mo_t2 (List.mem_of_getElem? (i := 57) rfl)) rfl
theorem wd_2_58 : (Cond.code ({ cls := "BlockMesh$Ledger", name := "replay", desc := "(LBlockMesh$Dag;)V" } : MethodName) prog_5_method_3_code (6 : Nat) (Option.none : Option FieldType)) ∈ WG := mo_wg (mo_t2 (List.mem_of_getElem? (i := 58) rfl)) rfl
theorem wd_2_59 : (Cond.methodLink "BlockMesh$Ledger" (33 : Nat) ({ cls := "java/util/Arrays", name := "fill", desc := "([II)V" } : MethodName)) ∈ WG := mo_wg (mo_t2 (List.mem_of_getElem? (i := 59) rfl)) rfl
theorem wd_2_60 : (Cond.static ({ cls := "java/util/Arrays", name := "fill", desc := "([II)V" } : MethodName)) ∈ WG := mo_wg (mo_t2 (List.mem_of_getElem? (i := 60) rfl)) rfl
theorem wd_2_61 : (Cond.code ({ cls := "java/util/Arrays", name := "fill", desc := "([II)V" } : MethodName) prog_13_method_103_code (4 : Nat) (Option.none : Option FieldType)) ∈ WG := mo_wg (mo_t2 (List.mem_of_getElem? (i := 61) rfl)) rfl
theorem wd_2_62 : (Cond.methodLink "BlockMesh$Ledger" (39 : Nat) ({ cls := "BlockMesh$Dag", name := "size", desc := "()I" } : MethodName)) ∈ WG := mo_wg (mo_t2 (List.mem_of_getElem? (i := 62) rfl)) rfl
theorem wd_2_63 : (Cond.methodLink "BlockMesh$Ledger" (53 : Nat) ({ cls := "BlockMesh$Blocks", name := "includedAt", desc := "(II)I" } : MethodName)) ∈ WG := mo_wg (mo_t2 (List.mem_of_getElem? (i := 63) rfl)) rfl
theorem wd_2_64 : (Cond.instanceMethod ({ cls := "BlockMesh$Blocks", name := "includedAt", desc := "(II)I" } : MethodName)) ∈ WG := mo_wg (mo_t2 (List.mem_of_getElem? (i := 64) rfl)) rfl
theorem wd_2_65 : (Cond.selects "BlockMesh$Blocks" ({ cls := "BlockMesh$Blocks", name := "includedAt", desc := "(II)I" } : MethodName) ({ cls := "BlockMesh$Blocks", name := "includedAt", desc := "(II)I" } : MethodName)) ∈ WG := mo_wg (mo_t2 (List.mem_of_getElem? (i := 65) rfl)) rfl
theorem wd_2_66 : (Cond.code ({ cls := "BlockMesh$Blocks", name := "includedAt", desc := "(II)I" } : MethodName) prog_3_method_7_code (3 : Nat) (Option.some FieldType.int)) ∈ WG := mo_wg (mo_t2 (List.mem_of_getElem? (i := 66) rfl)) rfl
theorem wd_2_67 : (Cond.methodLink "BlockMesh$Ledger" (57 : Nat) ({ cls := "BlockMesh$Ledger", name := "accept", desc := "(I)I" } : MethodName)) ∈ WG := mo_wg (mo_t2 (List.mem_of_getElem? (i := 67) rfl)) rfl
theorem wd_2_68 : (Cond.instanceMethod ({ cls := "BlockMesh$Ledger", name := "accept", desc := "(I)I" } : MethodName)) ∈ WG := mo_wg (mo_t2 (List.mem_of_getElem? (i := 68) rfl)) rfl
theorem wd_2_69 : (Cond.selects "BlockMesh$Ledger" ({ cls := "BlockMesh$Ledger", name := "accept", desc := "(I)I" } : MethodName) ({ cls := "BlockMesh$Ledger", name := "accept", desc := "(I)I" } : MethodName)) ∈ WG := mo_wg (mo_t2 (List.mem_of_getElem? (i := 69) rfl)) rfl
theorem wd_2_70 : (Cond.code ({ cls := "BlockMesh$Ledger", name := "accept", desc := "(I)I" } : MethodName) prog_5_method_6_code (5 : Nat) (Option.some FieldType.int)) ∈ WG := mo_wg (mo_t2 (List.mem_of_getElem? (i := 70) rfl)) rfl
theorem wd_2_71 : (Cond.methodLink "BlockMesh$Ledger" (88 : Nat) ({ cls := "BlockMesh$Ledger", name := "feeOf", desc := "(I)I" } : MethodName)) ∈ WG := mo_wg (mo_t2 (List.mem_of_getElem? (i := 71) rfl)) rfl
theorem wd_2_72 : (Cond.instanceMethod ({ cls := "BlockMesh$Ledger", name := "feeOf", desc := "(I)I" } : MethodName)) ∈ WG := mo_wg (mo_t2 (List.mem_of_getElem? (i := 72) rfl)) rfl
theorem wd_2_73 : (Cond.selects "BlockMesh$Ledger" ({ cls := "BlockMesh$Ledger", name := "feeOf", desc := "(I)I" } : MethodName) ({ cls := "BlockMesh$Ledger", name := "feeOf", desc := "(I)I" } : MethodName)) ∈ WG := mo_wg (mo_t2 (List.mem_of_getElem? (i := 73) rfl)) rfl
theorem wd_2_74 : (Cond.code ({ cls := "BlockMesh$Ledger", name := "feeOf", desc := "(I)I" } : MethodName) prog_5_method_5_code (4 : Nat) (Option.some FieldType.int)) ∈ WG := mo_wg (mo_t2 (List.mem_of_getElem? (i := 74) rfl)) rfl
theorem wd_2_75 : (Cond.methodLink "BlockMesh$Ledger" (77 : Nat) ({ cls := "BlockMesh$Ledger", name := "hasAccepted", desc := "(I)Z" } : MethodName)) ∈ WG := mo_wg (mo_t2 (List.mem_of_getElem? (i := 75) rfl)) rfl
theorem wd_2_76 : (Cond.instanceMethod ({ cls := "BlockMesh$Ledger", name := "hasAccepted", desc := "(I)Z" } : MethodName)) ∈ WG := mo_wg (mo_t2 (List.mem_of_getElem? (i := 76) rfl)) rfl
theorem wd_2_77 : (Cond.selects "BlockMesh$Ledger" ({ cls := "BlockMesh$Ledger", name := "hasAccepted", desc := "(I)Z" } : MethodName) ({ cls := "BlockMesh$Ledger", name := "hasAccepted", desc := "(I)Z" } : MethodName)) ∈ WG := mo_wg (mo_t2 (List.mem_of_getElem? (i := 77) rfl)) rfl
theorem wd_2_78 : (Cond.code ({ cls := "BlockMesh$Ledger", name := "hasAccepted", desc := "(I)Z" } : MethodName) prog_5_method_4_code (2 : Nat) (Option.some FieldType.boolean)) ∈ WG := mo_wg (mo_t2 (List.mem_of_getElem? (i := 78) rfl)) rfl
theorem wn_2_79 : (Cond.methodLinkNest "BlockMesh$Ledger" (73 : Nat) ({ cls := "BlockMesh", name := "holds", desc := "(JI)Z" } : MethodName) "BlockMesh") ∈ NWG := mo_nw (mo_t2 (List.mem_of_getElem? (i := 79) rfl)) rfl
theorem wd_2_80 : (Cond.methodLink "BlockMesh$Ledger" (80 : Nat) ({ cls := "BlockMesh$Ledger", name := "inputSum", desc := "(I)I" } : MethodName)) ∈ WG := mo_wg (mo_t2 (List.mem_of_getElem? (i := 80) rfl)) rfl
theorem wd_2_82 : (Cond.instanceMethod ({ cls := "BlockMesh$Ledger", name := "inputSum", desc := "(I)I" } : MethodName)) ∈ WG := mo_wg (mo_t2 (List.mem_of_getElem? (i := 82) rfl)) rfl
theorem wd_2_83 : (Cond.code ({ cls := "BlockMesh$Ledger", name := "inputSum", desc := "(I)I" } : MethodName) prog_5_method_8_code (7 : Nat) (Option.some FieldType.int)) ∈ WG := mo_wg (mo_t2 (List.mem_of_getElem? (i := 83) rfl)) rfl
theorem wd_2_84 : (Cond.methodLink "BlockMesh$Ledger" (107 : Nat) ({ cls := "BlockMesh$Ledger", name := "lockOf", desc := "(I)I" } : MethodName)) ∈ WG := mo_wg (mo_t2 (List.mem_of_getElem? (i := 84) rfl)) rfl
theorem wd_2_86 : (Cond.instanceMethod ({ cls := "BlockMesh$Ledger", name := "lockOf", desc := "(I)I" } : MethodName)) ∈ WG := mo_wg (mo_t2 (List.mem_of_getElem? (i := 86) rfl)) rfl
theorem wd_2_87 : (Cond.code ({ cls := "BlockMesh$Ledger", name := "lockOf", desc := "(I)I" } : MethodName) prog_5_method_9_code (2 : Nat) (Option.some FieldType.int)) ∈ WG := mo_wg (mo_t2 (List.mem_of_getElem? (i := 87) rfl)) rfl
theorem wd_2_88 : (Cond.methodLink "BlockMesh$Ledger" (83 : Nat) ({ cls := "BlockMesh$Transactions", name := "outputSum", desc := "(I)I" } : MethodName)) ∈ WG := mo_wg (mo_t2 (List.mem_of_getElem? (i := 88) rfl)) rfl
theorem wd_2_89 : (Cond.instanceMethod ({ cls := "BlockMesh$Transactions", name := "outputSum", desc := "(I)I" } : MethodName)) ∈ WG := mo_wg (mo_t2 (List.mem_of_getElem? (i := 89) rfl)) rfl
theorem wd_2_90 : (Cond.selects "BlockMesh$Transactions" ({ cls := "BlockMesh$Transactions", name := "outputSum", desc := "(I)I" } : MethodName) ({ cls := "BlockMesh$Transactions", name := "outputSum", desc := "(I)I" } : MethodName)) ∈ WG := mo_wg (mo_t2 (List.mem_of_getElem? (i := 90) rfl)) rfl
theorem wd_2_91 : (Cond.code ({ cls := "BlockMesh$Transactions", name := "outputSum", desc := "(I)I" } : MethodName) prog_7_method_9_code (5 : Nat) (Option.some FieldType.int)) ∈ WG := mo_wg (mo_t2 (List.mem_of_getElem? (i := 91) rfl)) rfl
theorem wn_2_92 : (Cond.methodLinkNest "BlockMesh$Ledger" (103 : Nat) ({ cls := "BlockMesh", name := "bit", desc := "(I)J" } : MethodName) "BlockMesh") ∈ NWG := mo_nw (mo_t2 (List.mem_of_getElem? (i := 92) rfl)) rfl
theorem wd_2_93 : (Cond.methodLink "BlockMesh$Ledger" (61 : Nat) ({ cls := "java/lang/Math", name := "max", desc := "(II)I" } : MethodName)) ∈ WG := mo_wg (mo_t2 (List.mem_of_getElem? (i := 93) rfl)) rfl
theorem wd_2_94 : (Cond.static ({ cls := "java/lang/Math", name := "max", desc := "(II)I" } : MethodName)) ∈ WG := mo_wg (mo_t2 (List.mem_of_getElem? (i := 94) rfl)) rfl
theorem wd_2_95 : (Cond.code ({ cls := "java/lang/Math", name := "max", desc := "(II)I" } : MethodName) prog_11_method_65_code (2 : Nat) (Option.some FieldType.int)) ∈ WG := mo_wg (mo_t2 (List.mem_of_getElem? (i := 95) rfl)) rfl
theorem wd_2_96 : (Cond.methodLink "BlockMesh$Ledger" (66 : Nat) ({ cls := "BlockMesh$Dag", name := "isBlue", desc := "(I)Z" } : MethodName)) ∈ WG := mo_wg (mo_t2 (List.mem_of_getElem? (i := 96) rfl)) rfl
theorem wd_2_97 : (Cond.instanceMethod ({ cls := "BlockMesh$Dag", name := "isBlue", desc := "(I)Z" } : MethodName)) ∈ WG := mo_wg (mo_t2 (List.mem_of_getElem? (i := 97) rfl)) rfl
theorem wd_2_98 : (Cond.selects "BlockMesh$Dag" ({ cls := "BlockMesh$Dag", name := "isBlue", desc := "(I)Z" } : MethodName) ({ cls := "BlockMesh$Dag", name := "isBlue", desc := "(I)Z" } : MethodName)) ∈ WG := mo_wg (mo_t2 (List.mem_of_getElem? (i := 98) rfl)) rfl
theorem wd_2_99 : (Cond.code ({ cls := "BlockMesh$Dag", name := "isBlue", desc := "(I)Z" } : MethodName) prog_4_method_6_code (2 : Nat) (Option.some FieldType.boolean)) ∈ WG := mo_wg (mo_t2 (List.mem_of_getElem? (i := 99) rfl)) rfl
theorem wd_2_100 : (Cond.methodLink "BlockMesh" (258 : Nat) ({ cls := "BlockMesh$Ledger", name := "copyFrom", desc := "(LBlockMesh$Ledger;)V" } : MethodName)) ∈ WG := mo_wg (mo_t2 (List.mem_of_getElem? (i := 100) rfl)) rfl
theorem wd_2_101 : (Cond.instanceMethod ({ cls := "BlockMesh$Ledger", name := "copyFrom", desc := "(LBlockMesh$Ledger;)V" } : MethodName)) ∈ WG := mo_wg (mo_t2 (List.mem_of_getElem? (i := 101) rfl)) rfl
theorem wd_2_102 : (Cond.selects "BlockMesh$Ledger" ({ cls := "BlockMesh$Ledger", name := "copyFrom", desc := "(LBlockMesh$Ledger;)V" } : MethodName) ({ cls := "BlockMesh$Ledger", name := "copyFrom", desc := "(LBlockMesh$Ledger;)V" } : MethodName)) ∈ WG := mo_wg (mo_t2 (List.mem_of_getElem? (i := 102) rfl)) rfl
theorem wd_2_103 : (Cond.code ({ cls := "BlockMesh$Ledger", name := "copyFrom", desc := "(LBlockMesh$Ledger;)V" } : MethodName) prog_5_method_2_code (2 : Nat) (Option.none : Option FieldType)) ∈ WG := mo_wg (mo_t2 (List.mem_of_getElem? (i := 103) rfl)) rfl
theorem wd_2_104 : (Cond.methodLink "BlockMesh$Ledger" (23 : Nat) ({ cls := "java/lang/System", name := "arraycopy", desc := "(Ljava/lang/Object;ILjava/lang/Object;II)V" } : MethodName)) ∈ WG := mo_wg (mo_t2 (List.mem_of_getElem? (i := 104) rfl)) rfl
theorem wd_2_105 : (Cond.methodLink "BlockMesh" (144 : Nat) ({ cls := "BlockMesh$Numbers", name := "at", desc := "(I)I" } : MethodName)) ∈ WG := mo_wg (mo_t2 (List.mem_of_getElem? (i := 105) rfl)) rfl
theorem wd_2_106 : (Cond.instanceMethod ({ cls := "BlockMesh$Numbers", name := "at", desc := "(I)I" } : MethodName)) ∈ WG := mo_wg (mo_t2 (List.mem_of_getElem? (i := 106) rfl)) rfl
theorem wd_2_107 : (Cond.selects "BlockMesh$Numbers" ({ cls := "BlockMesh$Numbers", name := "at", desc := "(I)I" } : MethodName) ({ cls := "BlockMesh$Numbers", name := "at", desc := "(I)I" } : MethodName)) ∈ WG := mo_wg (mo_t2 (List.mem_of_getElem? (i := 107) rfl)) rfl
theorem wd_2_108 : (Cond.code ({ cls := "BlockMesh$Numbers", name := "at", desc := "(I)I" } : MethodName) prog_6_method_5_code (2 : Nat) (Option.some FieldType.int)) ∈ WG := mo_wg (mo_t2 (List.mem_of_getElem? (i := 108) rfl)) rfl
theorem wd_2_109 : (Cond.methodLink "BlockMesh" (170 : Nat) ({ cls := "BlockMesh$Ledger", name := "accept", desc := "(I)I" } : MethodName)) ∈ WG := mo_wg (mo_t2 (List.mem_of_getElem? (i := 109) rfl)) rfl
theorem wd_2_110 : (Cond.methodLink "BlockMesh" (239 : Nat) ({ cls := "BlockMesh$Numbers", name := "removeAt", desc := "(I)V" } : MethodName)) ∈ WG := mo_wg (mo_t2 (List.mem_of_getElem? (i := 110) rfl)) rfl
theorem wd_2_111 : (Cond.instanceMethod ({ cls := "BlockMesh$Numbers", name := "removeAt", desc := "(I)V" } : MethodName)) ∈ WG := mo_wg (mo_t2 (List.mem_of_getElem? (i := 111) rfl)) rfl
theorem wd_2_112 : (Cond.selects "BlockMesh$Numbers" ({ cls := "BlockMesh$Numbers", name := "removeAt", desc := "(I)V" } : MethodName) ({ cls := "BlockMesh$Numbers", name := "removeAt", desc := "(I)V" } : MethodName)) ∈ WG := mo_wg (mo_t2 (List.mem_of_getElem? (i := 112) rfl)) rfl
theorem wd_2_113 : (Cond.code ({ cls := "BlockMesh$Numbers", name := "removeAt", desc := "(I)V" } : MethodName) prog_6_method_6_code (3 : Nat) (Option.none : Option FieldType)) ∈ WG := mo_wg (mo_t2 (List.mem_of_getElem? (i := 113) rfl)) rfl
theorem wd_2_114 : (Cond.fieldLink "BlockMesh" (12 : Nat) "BlockMesh" "transactions" "LBlockMesh$Transactions;") ∈ WG := mo_wg (mo_t2 (List.mem_of_getElem? (i := 114) rfl)) rfl
theorem wd_2_115 : (Cond.fieldLink "BlockMesh" (19 : Nat) "BlockMesh" "blocks" "LBlockMesh$Blocks;") ∈ WG := mo_wg (mo_t2 (List.mem_of_getElem? (i := 115) rfl)) rfl
theorem wd_2_116 : (Cond.fieldLink "BlockMesh" (26 : Nat) "BlockMesh" "plan" "LBlockMesh$BlockPlan;") ∈ WG := mo_wg (mo_t2 (List.mem_of_getElem? (i := 116) rfl)) rfl
theorem wd_2_117 : (Cond.fieldLink "BlockMesh" (30 : Nat) "BlockMesh" "templatePlan" "LBlockMesh$BlockPlan;") ∈ WG := mo_wg (mo_t2 (List.mem_of_getElem? (i := 117) rfl)) rfl
theorem wd_2_118 : (Cond.fieldLink "BlockMesh" (38 : Nat) "BlockMesh" "dag" "LBlockMesh$Dag;") ∈ WG := mo_wg (mo_t2 (List.mem_of_getElem? (i := 118) rfl)) rfl
theorem wd_2_119 : (Cond.fieldLink "BlockMesh" (47 : Nat) "BlockMesh" "orphans" "LBlockMesh$Numbers;") ∈ WG := mo_wg (mo_t2 (List.mem_of_getElem? (i := 119) rfl)) rfl
theorem wd_2_120 : (Cond.fieldLink "BlockMesh" (56 : Nat) "BlockMesh" "ledger" "LBlockMesh$Ledger;") ∈ WG := mo_wg (mo_t2 (List.mem_of_getElem? (i := 120) rfl)) rfl
theorem wd_2_121 : (Cond.fieldLink "BlockMesh" (60 : Nat) "BlockMesh" "pooled" "LBlockMesh$Numbers;") ∈ WG := mo_wg (mo_t2 (List.mem_of_getElem? (i := 121) rfl)) rfl
theorem wd_2_122 : (Cond.fieldLink "BlockMesh" (63 : Nat) "BlockMesh" "ahead" "LBlockMesh$Ledger;") ∈ WG := mo_wg (mo_t2 (List.mem_of_getElem? (i := 122) rfl)) rfl
theorem wd_2_123 : (Cond.laysFinal "BlockMesh" "BlockMesh" "transactions" "LBlockMesh$Transactions;") ∈ WG := mo_wg (mo_t2 (List.mem_of_getElem? (i := 123) rfl)) rfl
theorem wd_2_125 : (Cond.laysFinal "BlockMesh" "BlockMesh" "blocks" "LBlockMesh$Blocks;") ∈ WG := mo_wg (mo_t2 (List.mem_of_getElem? (i := 125) rfl)) rfl
theorem wd_2_127 : (Cond.laysFinal "BlockMesh" "BlockMesh" "plan" "LBlockMesh$BlockPlan;") ∈ WG := mo_wg (mo_t2 (List.mem_of_getElem? (i := 127) rfl)) rfl
theorem wd_2_129 : (Cond.laysFinal "BlockMesh" "BlockMesh" "templatePlan" "LBlockMesh$BlockPlan;") ∈ WG := mo_wg (mo_t2 (List.mem_of_getElem? (i := 129) rfl)) rfl
theorem wd_2_131 : (Cond.laysFinal "BlockMesh" "BlockMesh" "dag" "LBlockMesh$Dag;") ∈ WG := mo_wg (mo_t2 (List.mem_of_getElem? (i := 131) rfl)) rfl
theorem wd_2_133 : (Cond.laysFinal "BlockMesh" "BlockMesh" "orphans" "LBlockMesh$Numbers;") ∈ WG := mo_wg (mo_t2 (List.mem_of_getElem? (i := 133) rfl)) rfl
theorem wd_2_135 : (Cond.laysFinal "BlockMesh" "BlockMesh" "ledger" "LBlockMesh$Ledger;") ∈ WG := mo_wg (mo_t2 (List.mem_of_getElem? (i := 135) rfl)) rfl
theorem wd_2_137 : (Cond.laysFinal "BlockMesh" "BlockMesh" "pooled" "LBlockMesh$Numbers;") ∈ WG := mo_wg (mo_t2 (List.mem_of_getElem? (i := 137) rfl)) rfl
theorem wd_2_139 : (Cond.laysFinal "BlockMesh" "BlockMesh" "ahead" "LBlockMesh$Ledger;") ∈ WG := mo_wg (mo_t2 (List.mem_of_getElem? (i := 139) rfl)) rfl
theorem wd_2_146 : (Cond.methodLink "BlockMesh" (72 : Nat) ({ cls := "BlockMesh", name := "slotOf", desc := "(II)I" } : MethodName)) ∈ WG := mo_wg (mo_t2 (List.mem_of_getElem? (i := 146) rfl)) rfl
theorem wd_2_147 : (Cond.static ({ cls := "BlockMesh", name := "slotOf", desc := "(II)I" } : MethodName)) ∈ WG := mo_wg (mo_t2 (List.mem_of_getElem? (i := 147) rfl)) rfl
theorem wd_2_148 : (Cond.code ({ cls := "BlockMesh", name := "slotOf", desc := "(II)I" } : MethodName) prog_1_method_32_code (2 : Nat) (Option.some FieldType.int)) ∈ WG := mo_wg (mo_t2 (List.mem_of_getElem? (i := 148) rfl)) rfl
theorem wd_2_149 : (Cond.methodLink "BlockMesh" (76 : Nat) ({ cls := "BlockMesh", name := "isSource", desc := "(I)Z" } : MethodName)) ∈ WG := mo_wg (mo_t2 (List.mem_of_getElem? (i := 149) rfl)) rfl
theorem wd_2_151 : (Cond.instanceMethod ({ cls := "BlockMesh", name := "isSource", desc := "(I)Z" } : MethodName)) ∈ WG := mo_wg (mo_t2 (List.mem_of_getElem? (i := 151) rfl)) rfl
theorem wd_2_152 : (Cond.code ({ cls := "BlockMesh", name := "isSource", desc := "(I)Z" } : MethodName) prog_1_method_20_code (2 : Nat) (Option.some FieldType.boolean)) ∈ WG := mo_wg (mo_t2 (List.mem_of_getElem? (i := 152) rfl)) rfl
theorem wd_2_153 : (Cond.methodLink "BlockMesh" (108 : Nat) ({ cls := "BlockMesh$Transactions", name := "has", desc := "(I)Z" } : MethodName)) ∈ WG := mo_wg (mo_t2 (List.mem_of_getElem? (i := 153) rfl)) rfl
theorem wd_2_154 : (Cond.instanceMethod ({ cls := "BlockMesh$Transactions", name := "has", desc := "(I)Z" } : MethodName)) ∈ WG := mo_wg (mo_t2 (List.mem_of_getElem? (i := 154) rfl)) rfl
theorem wd_2_155 : (Cond.selects "BlockMesh$Transactions" ({ cls := "BlockMesh$Transactions", name := "has", desc := "(I)Z" } : MethodName) ({ cls := "BlockMesh$Transactions", name := "has", desc := "(I)Z" } : MethodName)) ∈ WG := mo_wg (mo_t2 (List.mem_of_getElem? (i := 155) rfl)) rfl
theorem wd_2_156 : (Cond.code ({ cls := "BlockMesh$Transactions", name := "has", desc := "(I)Z" } : MethodName) prog_7_method_2_code (2 : Nat) (Option.some FieldType.boolean)) ∈ WG := mo_wg (mo_t2 (List.mem_of_getElem? (i := 156) rfl)) rfl
theorem wd_2_157 : (Cond.methodLink "BlockMesh" (99 : Nat) ({ cls := "BlockMesh$Blocks", name := "has", desc := "(I)Z" } : MethodName)) ∈ WG := mo_wg (mo_t2 (List.mem_of_getElem? (i := 157) rfl)) rfl
theorem wd_2_158 : (Cond.instanceMethod ({ cls := "BlockMesh$Blocks", name := "has", desc := "(I)Z" } : MethodName)) ∈ WG := mo_wg (mo_t2 (List.mem_of_getElem? (i := 158) rfl)) rfl
theorem wd_2_159 : (Cond.selects "BlockMesh$Blocks" ({ cls := "BlockMesh$Blocks", name := "has", desc := "(I)Z" } : MethodName) ({ cls := "BlockMesh$Blocks", name := "has", desc := "(I)Z" } : MethodName)) ∈ WG := mo_wg (mo_t2 (List.mem_of_getElem? (i := 159) rfl)) rfl
theorem wd_2_160 : (Cond.code ({ cls := "BlockMesh$Blocks", name := "has", desc := "(I)Z" } : MethodName) prog_3_method_2_code (2 : Nat) (Option.some FieldType.boolean)) ∈ WG := mo_wg (mo_t2 (List.mem_of_getElem? (i := 160) rfl)) rfl
theorem wd_2_161 : (Cond.methodLink "BlockMesh" (80 : Nat) ({ cls := "BlockMesh", name := "fingerprintOf", desc := "(I)I" } : MethodName)) ∈ WG := mo_wg (mo_t2 (List.mem_of_getElem? (i := 161) rfl)) rfl
theorem wd_2_163 : (Cond.instanceMethod ({ cls := "BlockMesh", name := "fingerprintOf", desc := "(I)I" } : MethodName)) ∈ WG := mo_wg (mo_t2 (List.mem_of_getElem? (i := 163) rfl)) rfl
theorem wd_2_164 : (Cond.code ({ cls := "BlockMesh", name := "fingerprintOf", desc := "(I)I" } : MethodName) prog_1_method_21_code (2 : Nat) (Option.some FieldType.int)) ∈ WG := mo_wg (mo_t2 (List.mem_of_getElem? (i := 164) rfl)) rfl
theorem wd_2_165 : (Cond.methodLink "BlockMesh" (84 : Nat) ({ cls := "BlockMesh$Transactions", name := "putInput", desc := "(IIII)Z" } : MethodName)) ∈ WG := mo_wg (mo_t2 (List.mem_of_getElem? (i := 165) rfl)) rfl
theorem wd_2_166 : (Cond.instanceMethod ({ cls := "BlockMesh$Transactions", name := "putInput", desc := "(IIII)Z" } : MethodName)) ∈ WG := mo_wg (mo_t2 (List.mem_of_getElem? (i := 166) rfl)) rfl
theorem wd_2_167 : (Cond.selects "BlockMesh$Transactions" ({ cls := "BlockMesh$Transactions", name := "putInput", desc := "(IIII)Z" } : MethodName) ({ cls := "BlockMesh$Transactions", name := "putInput", desc := "(IIII)Z" } : MethodName)) ∈ WG := mo_wg (mo_t2 (List.mem_of_getElem? (i := 167) rfl)) rfl
theorem wd_2_168 : (Cond.code ({ cls := "BlockMesh$Transactions", name := "putInput", desc := "(IIII)Z" } : MethodName) prog_7_method_4_code (6 : Nat) (Option.some FieldType.boolean)) ∈ WG := mo_wg (mo_t2 (List.mem_of_getElem? (i := 168) rfl)) rfl
theorem wn_2_169 : (Cond.methodLinkNest "BlockMesh$Transactions" (46 : Nat) ({ cls := "BlockMesh", name := "lockFor", desc := "(I)I" } : MethodName) "BlockMesh") ∈ NWG := mo_nw (mo_t2 (List.mem_of_getElem? (i := 169) rfl)) rfl
theorem wd_2_170 : (Cond.static ({ cls := "BlockMesh", name := "lockFor", desc := "(I)I" } : MethodName)) ∈ WG := mo_wg (mo_t2 (List.mem_of_getElem? (i := 170) rfl)) rfl
theorem wd_2_171 : (Cond.code ({ cls := "BlockMesh", name := "lockFor", desc := "(I)I" } : MethodName) prog_1_method_29_code (1 : Nat) (Option.some FieldType.int)) ∈ WG := mo_wg (mo_t2 (List.mem_of_getElem? (i := 171) rfl)) rfl
theorem wd_2_172 : (Cond.methodLink "BlockMesh" (263 : Nat) ({ cls := "BlockMesh", name := "mix", desc := "(II)I" } : MethodName)) ∈ WG := mo_wg (mo_t2 (List.mem_of_getElem? (i := 172) rfl)) rfl
theorem wd_2_177 : (Cond.methodLink "BlockMesh" (88 : Nat) ({ cls := "BlockMesh", name := "lockFor", desc := "(I)I" } : MethodName)) ∈ WG := mo_wg (mo_t2 (List.mem_of_getElem? (i := 177) rfl)) rfl
theorem wd_2_178 : (Cond.methodLink "BlockMesh" (91 : Nat) ({ cls := "BlockMesh$Transactions", name := "putOutput", desc := "(II)Z" } : MethodName)) ∈ WG := mo_wg (mo_t2 (List.mem_of_getElem? (i := 178) rfl)) rfl
theorem wd_2_179 : (Cond.instanceMethod ({ cls := "BlockMesh$Transactions", name := "putOutput", desc := "(II)Z" } : MethodName)) ∈ WG := mo_wg (mo_t2 (List.mem_of_getElem? (i := 179) rfl)) rfl
theorem wd_2_180 : (Cond.selects "BlockMesh$Transactions" ({ cls := "BlockMesh$Transactions", name := "putOutput", desc := "(II)Z" } : MethodName) ({ cls := "BlockMesh$Transactions", name := "putOutput", desc := "(II)Z" } : MethodName)) ∈ WG := mo_wg (mo_t2 (List.mem_of_getElem? (i := 180) rfl)) rfl
theorem wd_2_181 : (Cond.code ({ cls := "BlockMesh$Transactions", name := "putOutput", desc := "(II)Z" } : MethodName) prog_7_method_5_code (4 : Nat) (Option.some FieldType.boolean)) ∈ WG := mo_wg (mo_t2 (List.mem_of_getElem? (i := 181) rfl)) rfl
theorem wd_2_186 : (Cond.methodLink "BlockMesh" (95 : Nat) ({ cls := "BlockMesh$Transactions", name := "finish", desc := "()I" } : MethodName)) ∈ WG := mo_wg (mo_t2 (List.mem_of_getElem? (i := 186) rfl)) rfl
theorem wd_2_187 : (Cond.instanceMethod ({ cls := "BlockMesh$Transactions", name := "finish", desc := "()I" } : MethodName)) ∈ WG := mo_wg (mo_t2 (List.mem_of_getElem? (i := 187) rfl)) rfl
theorem wd_2_188 : (Cond.selects "BlockMesh$Transactions" ({ cls := "BlockMesh$Transactions", name := "finish", desc := "()I" } : MethodName) ({ cls := "BlockMesh$Transactions", name := "finish", desc := "()I" } : MethodName)) ∈ WG := mo_wg (mo_t2 (List.mem_of_getElem? (i := 188) rfl)) rfl
theorem wd_2_189 : (Cond.code ({ cls := "BlockMesh$Transactions", name := "finish", desc := "()I" } : MethodName) prog_7_method_7_code (1 : Nat) (Option.some FieldType.int)) ∈ WG := mo_wg (mo_t2 (List.mem_of_getElem? (i := 189) rfl)) rfl
theorem wd_2_190 : (Cond.methodLink "BlockMesh$Transactions" (50 : Nat) ({ cls := "BlockMesh$Transactions", name := "draftId", desc := "()I" } : MethodName)) ∈ WG := mo_wg (mo_t2 (List.mem_of_getElem? (i := 190) rfl)) rfl
theorem wd_2_192 : (Cond.instanceMethod ({ cls := "BlockMesh$Transactions", name := "draftId", desc := "()I" } : MethodName)) ∈ WG := mo_wg (mo_t2 (List.mem_of_getElem? (i := 192) rfl)) rfl
theorem wd_2_193 : (Cond.code ({ cls := "BlockMesh$Transactions", name := "draftId", desc := "()I" } : MethodName) prog_7_method_8_code (5 : Nat) (Option.some FieldType.int)) ∈ WG := mo_wg (mo_t2 (List.mem_of_getElem? (i := 193) rfl)) rfl
theorem wn_2_194 : (Cond.methodLinkNest "BlockMesh$Transactions" (54 : Nat) ({ cls := "BlockMesh", name := "mix", desc := "(II)I" } : MethodName) "BlockMesh") ∈ NWG := mo_nw (mo_t2 (List.mem_of_getElem? (i := 194) rfl)) rfl
theorem wd_2_199 : (Cond.methodLink "BlockMesh" (105 : Nat) ({ cls := "BlockMesh$Numbers", name := "addNew", desc := "(I)Z" } : MethodName)) ∈ WG := mo_wg (mo_t2 (List.mem_of_getElem? (i := 199) rfl)) rfl
theorem wd_2_200 : (Cond.instanceMethod ({ cls := "BlockMesh$Numbers", name := "addNew", desc := "(I)Z" } : MethodName)) ∈ WG := mo_wg (mo_t2 (List.mem_of_getElem? (i := 200) rfl)) rfl
theorem wd_2_201 : (Cond.selects "BlockMesh$Numbers" ({ cls := "BlockMesh$Numbers", name := "addNew", desc := "(I)Z" } : MethodName) ({ cls := "BlockMesh$Numbers", name := "addNew", desc := "(I)Z" } : MethodName)) ∈ WG := mo_wg (mo_t2 (List.mem_of_getElem? (i := 201) rfl)) rfl
theorem wd_2_202 : (Cond.code ({ cls := "BlockMesh$Numbers", name := "addNew", desc := "(I)Z" } : MethodName) prog_6_method_4_code (2 : Nat) (Option.some FieldType.boolean)) ∈ WG := mo_wg (mo_t2 (List.mem_of_getElem? (i := 202) rfl)) rfl
theorem wd_2_203 : (Cond.methodLink "BlockMesh$Numbers" (19 : Nat) ({ cls := "BlockMesh$Numbers", name := "isFull", desc := "()Z" } : MethodName)) ∈ WG := mo_wg (mo_t2 (List.mem_of_getElem? (i := 203) rfl)) rfl
theorem wd_2_204 : (Cond.instanceMethod ({ cls := "BlockMesh$Numbers", name := "isFull", desc := "()Z" } : MethodName)) ∈ WG := mo_wg (mo_t2 (List.mem_of_getElem? (i := 204) rfl)) rfl
theorem wd_2_205 : (Cond.selects "BlockMesh$Numbers" ({ cls := "BlockMesh$Numbers", name := "isFull", desc := "()Z" } : MethodName) ({ cls := "BlockMesh$Numbers", name := "isFull", desc := "()Z" } : MethodName)) ∈ WG := mo_wg (mo_t2 (List.mem_of_getElem? (i := 205) rfl)) rfl
theorem wd_2_206 : (Cond.code ({ cls := "BlockMesh$Numbers", name := "isFull", desc := "()Z" } : MethodName) prog_6_method_2_code (1 : Nat) (Option.some FieldType.boolean)) ∈ WG := mo_wg (mo_t2 (List.mem_of_getElem? (i := 206) rfl)) rfl
theorem wd_2_207 : (Cond.methodLink "BlockMesh$Numbers" (23 : Nat) ({ cls := "BlockMesh$Numbers", name := "has", desc := "(I)Z" } : MethodName)) ∈ WG := mo_wg (mo_t2 (List.mem_of_getElem? (i := 207) rfl)) rfl
theorem wd_2_208 : (Cond.instanceMethod ({ cls := "BlockMesh$Numbers", name := "has", desc := "(I)Z" } : MethodName)) ∈ WG := mo_wg (mo_t2 (List.mem_of_getElem? (i := 208) rfl)) rfl
theorem wd_2_209 : (Cond.selects "BlockMesh$Numbers" ({ cls := "BlockMesh$Numbers", name := "has", desc := "(I)Z" } : MethodName) ({ cls := "BlockMesh$Numbers", name := "has", desc := "(I)Z" } : MethodName)) ∈ WG := mo_wg (mo_t2 (List.mem_of_getElem? (i := 209) rfl)) rfl
theorem wd_2_210 : (Cond.code ({ cls := "BlockMesh$Numbers", name := "has", desc := "(I)Z" } : MethodName) prog_6_method_3_code (3 : Nat) (Option.some FieldType.boolean)) ∈ WG := mo_wg (mo_t2 (List.mem_of_getElem? (i := 210) rfl)) rfl
theorem wd_2_219 : (Cond.methodLink "BlockMesh" (116 : Nat) ({ cls := "BlockMesh$Blocks", name := "isFull", desc := "()Z" } : MethodName)) ∈ WG := mo_wg (mo_t2 (List.mem_of_getElem? (i := 219) rfl)) rfl
theorem wd_2_220 : (Cond.instanceMethod ({ cls := "BlockMesh$Blocks", name := "isFull", desc := "()Z" } : MethodName)) ∈ WG := mo_wg (mo_t2 (List.mem_of_getElem? (i := 220) rfl)) rfl
theorem wd_2_221 : (Cond.selects "BlockMesh$Blocks" ({ cls := "BlockMesh$Blocks", name := "isFull", desc := "()Z" } : MethodName) ({ cls := "BlockMesh$Blocks", name := "isFull", desc := "()Z" } : MethodName)) ∈ WG := mo_wg (mo_t2 (List.mem_of_getElem? (i := 221) rfl)) rfl
theorem wd_2_222 : (Cond.code ({ cls := "BlockMesh$Blocks", name := "isFull", desc := "()Z" } : MethodName) prog_3_method_3_code (1 : Nat) (Option.some FieldType.boolean)) ∈ WG := mo_wg (mo_t2 (List.mem_of_getElem? (i := 222) rfl)) rfl
theorem wd_2_223 : (Cond.methodLink "BlockMesh" (120 : Nat) ({ cls := "BlockMesh$Blocks", name := "build", desc := "(LBlockMesh$BlockPlan;LBlockMesh$Transactions;II)I" } : MethodName)) ∈ WG := mo_wg (mo_t2 (List.mem_of_getElem? (i := 223) rfl)) rfl
theorem wd_2_224 : (Cond.instanceMethod ({ cls := "BlockMesh$Blocks", name := "build", desc := "(LBlockMesh$BlockPlan;LBlockMesh$Transactions;II)I" } : MethodName)) ∈ WG := mo_wg (mo_t2 (List.mem_of_getElem? (i := 224) rfl)) rfl
theorem wd_2_225 : (Cond.selects "BlockMesh$Blocks" ({ cls := "BlockMesh$Blocks", name := "build", desc := "(LBlockMesh$BlockPlan;LBlockMesh$Transactions;II)I" } : MethodName) ({ cls := "BlockMesh$Blocks", name := "build", desc := "(LBlockMesh$BlockPlan;LBlockMesh$Transactions;II)I" } : MethodName)) ∈ WG := mo_wg (mo_t2 (List.mem_of_getElem? (i := 225) rfl)) rfl
theorem wd_2_226 : (Cond.code ({ cls := "BlockMesh$Blocks", name := "build", desc := "(LBlockMesh$BlockPlan;LBlockMesh$Transactions;II)I" } : MethodName) prog_3_method_9_code (9 : Nat) (Option.some FieldType.int)) ∈ WG := mo_wg (mo_t2 (List.mem_of_getElem? (i := 226) rfl)) rfl
theorem wd_2_227 : (Cond.methodLink "BlockMesh$Blocks" (57 : Nat) ({ cls := "BlockMesh$Numbers", name := "at", desc := "(I)I" } : MethodName)) ∈ WG := mo_wg (mo_t2 (List.mem_of_getElem? (i := 227) rfl)) rfl
theorem wd_2_228 : (Cond.methodLink "BlockMesh$Blocks" (68 : Nat) ({ cls := "BlockMesh$Blocks", name := "workedHash", desc := "(II)I" } : MethodName)) ∈ WG := mo_wg (mo_t2 (List.mem_of_getElem? (i := 228) rfl)) rfl
theorem wd_2_229 : (Cond.static ({ cls := "BlockMesh$Blocks", name := "workedHash", desc := "(II)I" } : MethodName)) ∈ WG := mo_wg (mo_t2 (List.mem_of_getElem? (i := 229) rfl)) rfl
theorem wd_2_230 : (Cond.code ({ cls := "BlockMesh$Blocks", name := "workedHash", desc := "(II)I" } : MethodName) prog_3_method_10_code (4 : Nat) (Option.some FieldType.int)) ∈ WG := mo_wg (mo_t2 (List.mem_of_getElem? (i := 230) rfl)) rfl
theorem wd_2_231 : (Cond.constant "BlockMesh$Blocks" (39 : Nat) (536870912 : Int32)) ∈ WG := mo_wg (mo_t2 (List.mem_of_getElem? (i := 231) rfl)) rfl
theorem wd_2_232 : (Cond.methodLink "BlockMesh" (124 : Nat) ({ cls := "BlockMesh$BlockPlan", name := "forget", desc := "()V" } : MethodName)) ∈ WG := mo_wg (mo_t2 (List.mem_of_getElem? (i := 232) rfl)) rfl
theorem wd_2_233 : (Cond.instanceMethod ({ cls := "BlockMesh$BlockPlan", name := "forget", desc := "()V" } : MethodName)) ∈ WG := mo_wg (mo_t2 (List.mem_of_getElem? (i := 233) rfl)) rfl
theorem wd_2_234 : (Cond.selects "BlockMesh$BlockPlan" ({ cls := "BlockMesh$BlockPlan", name := "forget", desc := "()V" } : MethodName) ({ cls := "BlockMesh$BlockPlan", name := "forget", desc := "()V" } : MethodName)) ∈ WG := mo_wg (mo_t2 (List.mem_of_getElem? (i := 234) rfl)) rfl
theorem wd_2_235 : (Cond.code ({ cls := "BlockMesh$BlockPlan", name := "forget", desc := "()V" } : MethodName) prog_2_method_2_code (1 : Nat) (Option.none : Option FieldType)) ∈ WG := mo_wg (mo_t2 (List.mem_of_getElem? (i := 235) rfl)) rfl
theorem wd_3_0 : (Cond.methodLink "BlockMesh" (127 : Nat) ({ cls := "BlockMesh$Transactions", name := "forgetDraft", desc := "()V" } : MethodName)) ∈ WG := mo_wg (mo_t3 (List.mem_of_getElem? (i := 0) rfl)) rfl
theorem wd_3_1 : (Cond.instanceMethod ({ cls := "BlockMesh$Transactions", name := "forgetDraft", desc := "()V" } : MethodName)) ∈ WG := mo_wg (mo_t3 (List.mem_of_getElem? (i := 1) rfl)) rfl
theorem wd_3_2 : (Cond.selects "BlockMesh$Transactions" ({ cls := "BlockMesh$Transactions", name := "forgetDraft", desc := "()V" } : MethodName) ({ cls := "BlockMesh$Transactions", name := "forgetDraft", desc := "()V" } : MethodName)) ∈ WG := mo_wg (mo_t3 (List.mem_of_getElem? (i := 2) rfl)) rfl
theorem wd_3_3 : (Cond.code ({ cls := "BlockMesh$Transactions", name := "forgetDraft", desc := "()V" } : MethodName) prog_7_method_6_code (1 : Nat) (Option.none : Option FieldType)) ∈ WG := mo_wg (mo_t3 (List.mem_of_getElem? (i := 3) rfl)) rfl
theorem wd_3_8 : (Cond.methodLink "BlockMesh" (134 : Nat) ({ cls := "BlockMesh$Dag", name := "heaviest", desc := "(J)I" } : MethodName)) ∈ WG := mo_wg (mo_t3 (List.mem_of_getElem? (i := 8) rfl)) rfl
theorem wd_3_9 : (Cond.methodLink "BlockMesh" (138 : Nat) ({ cls := "BlockMesh", name := "bit", desc := "(I)J" } : MethodName)) ∈ WG := mo_wg (mo_t3 (List.mem_of_getElem? (i := 9) rfl)) rfl
theorem wd_3_10 : (Cond.constantLong "BlockMesh" (142 : Nat) (-1 : Int64)) ∈ WG := mo_wg (mo_t3 (List.mem_of_getElem? (i := 10) rfl)) rfl
theorem wd_3_15 : (Cond.methodLink "BlockMesh" (147 : Nat) ({ cls := "BlockMesh$Blocks", name := "isWorked", desc := "(I)Z" } : MethodName)) ∈ WG := mo_wg (mo_t3 (List.mem_of_getElem? (i := 15) rfl)) rfl
theorem wd_3_16 : (Cond.instanceMethod ({ cls := "BlockMesh$Blocks", name := "isWorked", desc := "(I)Z" } : MethodName)) ∈ WG := mo_wg (mo_t3 (List.mem_of_getElem? (i := 16) rfl)) rfl
theorem wd_3_17 : (Cond.selects "BlockMesh$Blocks" ({ cls := "BlockMesh$Blocks", name := "isWorked", desc := "(I)Z" } : MethodName) ({ cls := "BlockMesh$Blocks", name := "isWorked", desc := "(I)Z" } : MethodName)) ∈ WG := mo_wg (mo_t3 (List.mem_of_getElem? (i := 17) rfl)) rfl
theorem wd_3_18 : (Cond.code ({ cls := "BlockMesh$Blocks", name := "isWorked", desc := "(I)Z" } : MethodName) prog_3_method_4_code (2 : Nat) (Option.some FieldType.boolean)) ∈ WG := mo_wg (mo_t3 (List.mem_of_getElem? (i := 18) rfl)) rfl
theorem wd_3_19 : (Cond.methodLink "BlockMesh" (150 : Nat) ({ cls := "BlockMesh$Dag", name := "has", desc := "(I)Z" } : MethodName)) ∈ WG := mo_wg (mo_t3 (List.mem_of_getElem? (i := 19) rfl)) rfl
theorem wd_3_20 : (Cond.instanceMethod ({ cls := "BlockMesh$Dag", name := "has", desc := "(I)Z" } : MethodName)) ∈ WG := mo_wg (mo_t3 (List.mem_of_getElem? (i := 20) rfl)) rfl
theorem wd_3_21 : (Cond.selects "BlockMesh$Dag" ({ cls := "BlockMesh$Dag", name := "has", desc := "(I)Z" } : MethodName) ({ cls := "BlockMesh$Dag", name := "has", desc := "(I)Z" } : MethodName)) ∈ WG := mo_wg (mo_t3 (List.mem_of_getElem? (i := 21) rfl)) rfl
theorem wd_3_22 : (Cond.code ({ cls := "BlockMesh$Dag", name := "has", desc := "(I)Z" } : MethodName) prog_4_method_3_code (2 : Nat) (Option.some FieldType.boolean)) ∈ WG := mo_wg (mo_t3 (List.mem_of_getElem? (i := 22) rfl)) rfl
theorem wd_3_23 : (Cond.methodLink "BlockMesh" (151 : Nat) ({ cls := "BlockMesh$Numbers", name := "has", desc := "(I)Z" } : MethodName)) ∈ WG := mo_wg (mo_t3 (List.mem_of_getElem? (i := 23) rfl)) rfl
theorem wd_3_24 : (Cond.methodLink "BlockMesh" (152 : Nat) ({ cls := "BlockMesh$Dag", name := "hasParentsOf", desc := "(I)Z" } : MethodName)) ∈ WG := mo_wg (mo_t3 (List.mem_of_getElem? (i := 24) rfl)) rfl
theorem wd_3_25 : (Cond.instanceMethod ({ cls := "BlockMesh$Dag", name := "hasParentsOf", desc := "(I)Z" } : MethodName)) ∈ WG := mo_wg (mo_t3 (List.mem_of_getElem? (i := 25) rfl)) rfl
theorem wd_3_26 : (Cond.selects "BlockMesh$Dag" ({ cls := "BlockMesh$Dag", name := "hasParentsOf", desc := "(I)Z" } : MethodName) ({ cls := "BlockMesh$Dag", name := "hasParentsOf", desc := "(I)Z" } : MethodName)) ∈ WG := mo_wg (mo_t3 (List.mem_of_getElem? (i := 26) rfl)) rfl
theorem wd_3_27 : (Cond.code ({ cls := "BlockMesh$Dag", name := "hasParentsOf", desc := "(I)Z" } : MethodName) prog_4_method_4_code (2 : Nat) (Option.some FieldType.boolean)) ∈ WG := mo_wg (mo_t3 (List.mem_of_getElem? (i := 27) rfl)) rfl
theorem wd_3_28 : (Cond.methodLink "BlockMesh" (155 : Nat) ({ cls := "BlockMesh", name := "keepOrphan", desc := "(I)V" } : MethodName)) ∈ WG := mo_wg (mo_t3 (List.mem_of_getElem? (i := 28) rfl)) rfl
theorem wd_3_30 : (Cond.instanceMethod ({ cls := "BlockMesh", name := "keepOrphan", desc := "(I)V" } : MethodName)) ∈ WG := mo_wg (mo_t3 (List.mem_of_getElem? (i := 30) rfl)) rfl
theorem wd_3_31 : (Cond.code ({ cls := "BlockMesh", name := "keepOrphan", desc := "(I)V" } : MethodName) prog_1_method_23_code (2 : Nat) (Option.none : Option FieldType)) ∈ WG := mo_wg (mo_t3 (List.mem_of_getElem? (i := 31) rfl)) rfl
theorem wd_3_32 : (Cond.methodLink "BlockMesh" (238 : Nat) ({ cls := "BlockMesh$Numbers", name := "isFull", desc := "()Z" } : MethodName)) ∈ WG := mo_wg (mo_t3 (List.mem_of_getElem? (i := 32) rfl)) rfl
theorem wd_3_33 : (Cond.methodLink "BlockMesh" (158 : Nat) ({ cls := "BlockMesh$Dag", name := "parentsOverlap", desc := "(I)Z" } : MethodName)) ∈ WG := mo_wg (mo_t3 (List.mem_of_getElem? (i := 33) rfl)) rfl
theorem wd_3_34 : (Cond.instanceMethod ({ cls := "BlockMesh$Dag", name := "parentsOverlap", desc := "(I)Z" } : MethodName)) ∈ WG := mo_wg (mo_t3 (List.mem_of_getElem? (i := 34) rfl)) rfl
theorem wd_3_35 : (Cond.selects "BlockMesh$Dag" ({ cls := "BlockMesh$Dag", name := "parentsOverlap", desc := "(I)Z" } : MethodName) ({ cls := "BlockMesh$Dag", name := "parentsOverlap", desc := "(I)Z" } : MethodName)) ∈ WG := mo_wg (mo_t3 (List.mem_of_getElem? (i := 35) rfl)) rfl
theorem wd_3_36 : (Cond.code ({ cls := "BlockMesh$Dag", name := "parentsOverlap", desc := "(I)Z" } : MethodName) prog_4_method_5_code (4 : Nat) (Option.some FieldType.boolean)) ∈ WG := mo_wg (mo_t3 (List.mem_of_getElem? (i := 36) rfl)) rfl
theorem wd_3_37 : (Cond.methodLink "BlockMesh" (161 : Nat) ({ cls := "BlockMesh", name := "attachOrphans", desc := "()V" } : MethodName)) ∈ WG := mo_wg (mo_t3 (List.mem_of_getElem? (i := 37) rfl)) rfl
theorem wd_3_39 : (Cond.instanceMethod ({ cls := "BlockMesh", name := "attachOrphans", desc := "()V" } : MethodName)) ∈ WG := mo_wg (mo_t3 (List.mem_of_getElem? (i := 39) rfl)) rfl
theorem wd_3_40 : (Cond.code ({ cls := "BlockMesh", name := "attachOrphans", desc := "()V" } : MethodName) prog_1_method_24_code (4 : Nat) (Option.none : Option FieldType)) ∈ WG := mo_wg (mo_t3 (List.mem_of_getElem? (i := 40) rfl)) rfl
theorem wd_3_41 : (Cond.methodLink "BlockMesh" (242 : Nat) ({ cls := "BlockMesh", name := "readyOrphan", desc := "()I" } : MethodName)) ∈ WG := mo_wg (mo_t3 (List.mem_of_getElem? (i := 41) rfl)) rfl
theorem wd_3_43 : (Cond.instanceMethod ({ cls := "BlockMesh", name := "readyOrphan", desc := "()I" } : MethodName)) ∈ WG := mo_wg (mo_t3 (List.mem_of_getElem? (i := 43) rfl)) rfl
theorem wd_3_44 : (Cond.code ({ cls := "BlockMesh", name := "readyOrphan", desc := "()I" } : MethodName) prog_1_method_25_code (4 : Nat) (Option.some FieldType.int)) ∈ WG := mo_wg (mo_t3 (List.mem_of_getElem? (i := 44) rfl)) rfl
theorem wd_3_49 : (Cond.methodLink "BlockMesh" (164 : Nat) ({ cls := "BlockMesh$Ledger", name := "hasAccepted", desc := "(I)Z" } : MethodName)) ∈ WG := mo_wg (mo_t3 (List.mem_of_getElem? (i := 49) rfl)) rfl
theorem wd_3_50 : (Cond.methodLink "BlockMesh" (167 : Nat) ({ cls := "BlockMesh$Ledger", name := "feeOf", desc := "(I)I" } : MethodName)) ∈ WG := mo_wg (mo_t3 (List.mem_of_getElem? (i := 50) rfl)) rfl
theorem wd_3_55 : (Cond.methodLink "BlockMesh" (173 : Nat) ({ cls := "BlockMesh", name := "standingOf", desc := "(I)I" } : MethodName)) ∈ WG := mo_wg (mo_t3 (List.mem_of_getElem? (i := 55) rfl)) rfl
theorem wd_3_57 : (Cond.instanceMethod ({ cls := "BlockMesh", name := "standingOf", desc := "(I)I" } : MethodName)) ∈ WG := mo_wg (mo_t3 (List.mem_of_getElem? (i := 57) rfl)) rfl
theorem wd_3_58 : (Cond.code ({ cls := "BlockMesh", name := "standingOf", desc := "(I)I" } : MethodName) prog_1_method_22_code (2 : Nat) (Option.some FieldType.int)) ∈ WG := mo_wg (mo_t3 (List.mem_of_getElem? (i := 58) rfl)) rfl
theorem wd_3_59 : (Cond.methodLink "BlockMesh" (235 : Nat) ({ cls := "BlockMesh$Dag", name := "isBlue", desc := "(I)Z" } : MethodName)) ∈ WG := mo_wg (mo_t3 (List.mem_of_getElem? (i := 59) rfl)) rfl
theorem wd_3_60 : (Cond.methodLink "BlockMesh" (186 : Nat) ({ cls := "BlockMesh$Dag", name := "placeOf", desc := "(I)I" } : MethodName)) ∈ WG := mo_wg (mo_t3 (List.mem_of_getElem? (i := 60) rfl)) rfl
theorem wd_3_61 : (Cond.instanceMethod ({ cls := "BlockMesh$Dag", name := "placeOf", desc := "(I)I" } : MethodName)) ∈ WG := mo_wg (mo_t3 (List.mem_of_getElem? (i := 61) rfl)) rfl
theorem wd_3_62 : (Cond.selects "BlockMesh$Dag" ({ cls := "BlockMesh$Dag", name := "placeOf", desc := "(I)I" } : MethodName) ({ cls := "BlockMesh$Dag", name := "placeOf", desc := "(I)I" } : MethodName)) ∈ WG := mo_wg (mo_t3 (List.mem_of_getElem? (i := 62) rfl)) rfl
theorem wd_3_63 : (Cond.code ({ cls := "BlockMesh$Dag", name := "placeOf", desc := "(I)I" } : MethodName) prog_4_method_7_code (3 : Nat) (Option.some FieldType.int)) ∈ WG := mo_wg (mo_t3 (List.mem_of_getElem? (i := 63) rfl)) rfl
theorem wd_3_64 : (Cond.methodLink "BlockMesh" (189 : Nat) ({ cls := "BlockMesh$Dag", name := "mergedBy", desc := "(I)J" } : MethodName)) ∈ WG := mo_wg (mo_t3 (List.mem_of_getElem? (i := 64) rfl)) rfl
theorem wd_3_65 : (Cond.methodLink "BlockMesh" (192 : Nat) ({ cls := "java/lang/Long", name := "bitCount", desc := "(J)I" } : MethodName)) ∈ WG := mo_wg (mo_t3 (List.mem_of_getElem? (i := 65) rfl)) rfl
theorem wd_3_70 : (Cond.methodLink "BlockMesh" (197 : Nat) ({ cls := "BlockMesh$Dag", name := "size", desc := "()I" } : MethodName)) ∈ WG := mo_wg (mo_t3 (List.mem_of_getElem? (i := 70) rfl)) rfl
theorem wd_3_83 : (Cond.methodLink "BlockMesh" (205 : Nat) ({ cls := "BlockMesh", name := "missingParents", desc := "()J" } : MethodName)) ∈ WG := mo_wg (mo_t3 (List.mem_of_getElem? (i := 83) rfl)) rfl
theorem wd_3_85 : (Cond.instanceMethod ({ cls := "BlockMesh", name := "missingParents", desc := "()J" } : MethodName)) ∈ WG := mo_wg (mo_t3 (List.mem_of_getElem? (i := 85) rfl)) rfl
theorem wd_3_86 : (Cond.code ({ cls := "BlockMesh", name := "missingParents", desc := "()J" } : MethodName) prog_1_method_26_code (6 : Nat) (Option.some FieldType.long)) ∈ WG := mo_wg (mo_t3 (List.mem_of_getElem? (i := 86) rfl)) rfl
theorem wd_3_87 : (Cond.methodLink "BlockMesh" (248 : Nat) ({ cls := "BlockMesh$Blocks", name := "parentSet", desc := "(I)J" } : MethodName)) ∈ WG := mo_wg (mo_t3 (List.mem_of_getElem? (i := 87) rfl)) rfl
theorem wd_3_88 : (Cond.methodLink "BlockMesh" (209 : Nat) ({ cls := "BlockMesh", name := "holds", desc := "(JI)Z" } : MethodName)) ∈ WG := mo_wg (mo_t3 (List.mem_of_getElem? (i := 88) rfl)) rfl
theorem wd_3_93 : (Cond.methodLink "BlockMesh" (216 : Nat) ({ cls := "BlockMesh$Blocks", name := "parentAt", desc := "(II)I" } : MethodName)) ∈ WG := mo_wg (mo_t3 (List.mem_of_getElem? (i := 93) rfl)) rfl
theorem wd_3_98 : (Cond.methodLink "BlockMesh" (226 : Nat) ({ cls := "BlockMesh$Transactions", name := "lastId", desc := "()I" } : MethodName)) ∈ WG := mo_wg (mo_t3 (List.mem_of_getElem? (i := 98) rfl)) rfl
theorem wd_3_99 : (Cond.instanceMethod ({ cls := "BlockMesh$Transactions", name := "lastId", desc := "()I" } : MethodName)) ∈ WG := mo_wg (mo_t3 (List.mem_of_getElem? (i := 99) rfl)) rfl
theorem wd_3_100 : (Cond.selects "BlockMesh$Transactions" ({ cls := "BlockMesh$Transactions", name := "lastId", desc := "()I" } : MethodName) ({ cls := "BlockMesh$Transactions", name := "lastId", desc := "()I" } : MethodName)) ∈ WG := mo_wg (mo_t3 (List.mem_of_getElem? (i := 100) rfl)) rfl
theorem wd_3_101 : (Cond.code ({ cls := "BlockMesh$Transactions", name := "lastId", desc := "()I" } : MethodName) prog_7_method_3_code (1 : Nat) (Option.some FieldType.int)) ∈ WG := mo_wg (mo_t3 (List.mem_of_getElem? (i := 101) rfl)) rfl
theorem wd_3_106 : (Cond.methodLink "BlockMesh" (229 : Nat) ({ cls := "BlockMesh$Ledger", name := "sum", desc := "()I" } : MethodName)) ∈ WG := mo_wg (mo_t3 (List.mem_of_getElem? (i := 106) rfl)) rfl
theorem wd_3_107 : (Cond.instanceMethod ({ cls := "BlockMesh$Ledger", name := "sum", desc := "()I" } : MethodName)) ∈ WG := mo_wg (mo_t3 (List.mem_of_getElem? (i := 107) rfl)) rfl
theorem wd_3_108 : (Cond.selects "BlockMesh$Ledger" ({ cls := "BlockMesh$Ledger", name := "sum", desc := "()I" } : MethodName) ({ cls := "BlockMesh$Ledger", name := "sum", desc := "()I" } : MethodName)) ∈ WG := mo_wg (mo_t3 (List.mem_of_getElem? (i := 108) rfl)) rfl
theorem wd_3_109 : (Cond.code ({ cls := "BlockMesh$Ledger", name := "sum", desc := "()I" } : MethodName) prog_5_method_7_code (3 : Nat) (Option.some FieldType.int)) ∈ WG := mo_wg (mo_t3 (List.mem_of_getElem? (i := 109) rfl)) rfl
theorem wd_3_118 : (Cond.methodLink "BlockMeshModel" (1 : Nat) ({ cls := "java/lang/Object", name := "<init>", desc := "()V" } : MethodName)) ∈ WG := mo_wg (mo_t3 (List.mem_of_getElem? (i := 118) rfl)) rfl
theorem wd_3_119 : (Cond.methodLink "BlockMeshModel" (101 : Nat) ({ cls := "BlockMeshModel", name := "mix", desc := "(II)I" } : MethodName)) ∈ WG := mo_wg (mo_t3 (List.mem_of_getElem? (i := 119) rfl)) rfl
theorem wd_3_120 : (Cond.static ({ cls := "BlockMeshModel", name := "mix", desc := "(II)I" } : MethodName)) ∈ WG := mo_wg (mo_t3 (List.mem_of_getElem? (i := 120) rfl)) rfl
theorem wd_3_121 : (Cond.code ({ cls := "BlockMeshModel", name := "mix", desc := "(II)I" } : MethodName) prog_9_method_2_code (3 : Nat) (Option.some FieldType.int)) ∈ WG := mo_wg (mo_t3 (List.mem_of_getElem? (i := 121) rfl)) rfl
theorem wd_3_122 : (Cond.constant "BlockMeshModel" (109 : Nat) (668265263 : Int32)) ∈ WG := mo_wg (mo_t3 (List.mem_of_getElem? (i := 122) rfl)) rfl
theorem wd_3_123 : (Cond.constant "BlockMeshModel" (105 : Nat) (2147483647 : Int32)) ∈ WG := mo_wg (mo_t3 (List.mem_of_getElem? (i := 123) rfl)) rfl
theorem wd_3_124 : (Cond.methodLink "BlockMeshModel" (106 : Nat) ({ cls := "BlockMeshModel", name := "look", desc := "()V" } : MethodName)) ∈ WG := mo_wg (mo_t3 (List.mem_of_getElem? (i := 124) rfl)) rfl
theorem wd_3_126 : (Cond.instanceMethod ({ cls := "BlockMeshModel", name := "look", desc := "()V" } : MethodName)) ∈ WG := mo_wg (mo_t3 (List.mem_of_getElem? (i := 126) rfl)) rfl
theorem wd_3_127 : (Cond.code ({ cls := "BlockMeshModel", name := "look", desc := "()V" } : MethodName) prog_9_method_20_code (2 : Nat) (Option.none : Option FieldType)) ∈ WG := mo_wg (mo_t3 (List.mem_of_getElem? (i := 127) rfl)) rfl
theorem wd_3_128 : (Cond.methodLink "BlockMeshModel" (147 : Nat) ({ cls := "BlockMeshModel", name := "tips", desc := "()J" } : MethodName)) ∈ WG := mo_wg (mo_t3 (List.mem_of_getElem? (i := 128) rfl)) rfl
theorem wd_3_130 : (Cond.instanceMethod ({ cls := "BlockMeshModel", name := "tips", desc := "()J" } : MethodName)) ∈ WG := mo_wg (mo_t3 (List.mem_of_getElem? (i := 130) rfl)) rfl
theorem wd_3_131 : (Cond.code ({ cls := "BlockMeshModel", name := "tips", desc := "()J" } : MethodName) prog_9_method_15_code (5 : Nat) (Option.some FieldType.long)) ∈ WG := mo_wg (mo_t3 (List.mem_of_getElem? (i := 131) rfl)) rfl
theorem wd_3_132 : (Cond.methodLink "BlockMeshModel" (125 : Nat) ({ cls := "BlockMeshModel", name := "in", desc := "(JI)Z" } : MethodName)) ∈ WG := mo_wg (mo_t3 (List.mem_of_getElem? (i := 132) rfl)) rfl
theorem wd_3_133 : (Cond.static ({ cls := "BlockMeshModel", name := "in", desc := "(JI)Z" } : MethodName)) ∈ WG := mo_wg (mo_t3 (List.mem_of_getElem? (i := 133) rfl)) rfl
theorem wd_3_134 : (Cond.code ({ cls := "BlockMeshModel", name := "in", desc := "(JI)Z" } : MethodName) prog_9_method_4_code (3 : Nat) (Option.some FieldType.boolean)) ∈ WG := mo_wg (mo_t3 (List.mem_of_getElem? (i := 134) rfl)) rfl
theorem wd_3_135 : (Cond.constantLong "BlockMeshModel" (129 : Nat) (-1 : Int64)) ∈ WG := mo_wg (mo_t3 (List.mem_of_getElem? (i := 135) rfl)) rfl
theorem wd_3_136 : (Cond.methodLink "BlockMeshModel" (151 : Nat) ({ cls := "BlockMeshModel", name := "work", desc := "(IJ)V" } : MethodName)) ∈ WG := mo_wg (mo_t3 (List.mem_of_getElem? (i := 136) rfl)) rfl
theorem wd_3_138 : (Cond.instanceMethod ({ cls := "BlockMeshModel", name := "work", desc := "(IJ)V" } : MethodName)) ∈ WG := mo_wg (mo_t3 (List.mem_of_getElem? (i := 138) rfl)) rfl
theorem wd_3_139 : (Cond.code ({ cls := "BlockMeshModel", name := "work", desc := "(IJ)V" } : MethodName) prog_9_method_17_code (11 : Nat) (Option.none : Option FieldType)) ∈ WG := mo_wg (mo_t3 (List.mem_of_getElem? (i := 139) rfl)) rfl
theorem wd_3_140 : (Cond.methodLink "BlockMeshModel" (131 : Nat) ({ cls := "BlockMeshModel", name := "earlier", desc := "(II)Z" } : MethodName)) ∈ WG := mo_wg (mo_t3 (List.mem_of_getElem? (i := 140) rfl)) rfl
theorem wd_3_142 : (Cond.instanceMethod ({ cls := "BlockMeshModel", name := "earlier", desc := "(II)Z" } : MethodName)) ∈ WG := mo_wg (mo_t3 (List.mem_of_getElem? (i := 142) rfl)) rfl
theorem wd_3_143 : (Cond.code ({ cls := "BlockMeshModel", name := "earlier", desc := "(II)Z" } : MethodName) prog_9_method_14_code (3 : Nat) (Option.some FieldType.boolean)) ∈ WG := mo_wg (mo_t3 (List.mem_of_getElem? (i := 143) rfl)) rfl
theorem wd_3_144 : (Cond.methodLink "BlockMeshModel" (135 : Nat) ({ cls := "BlockMeshModel", name := "merge", desc := "(I)I" } : MethodName)) ∈ WG := mo_wg (mo_t3 (List.mem_of_getElem? (i := 144) rfl)) rfl
theorem wd_3_146 : (Cond.instanceMethod ({ cls := "BlockMeshModel", name := "merge", desc := "(I)I" } : MethodName)) ∈ WG := mo_wg (mo_t3 (List.mem_of_getElem? (i := 146) rfl)) rfl
theorem wd_3_147 : (Cond.code ({ cls := "BlockMeshModel", name := "merge", desc := "(I)I" } : MethodName) prog_9_method_18_code (8 : Nat) (Option.some FieldType.int)) ∈ WG := mo_wg (mo_t3 (List.mem_of_getElem? (i := 147) rfl)) rfl
theorem wd_3_148 : (Cond.methodLink "BlockMeshModel" (139 : Nat) ({ cls := "BlockMeshModel", name := "goes", desc := "(J)Z" } : MethodName)) ∈ WG := mo_wg (mo_t3 (List.mem_of_getElem? (i := 148) rfl)) rfl
theorem wd_3_150 : (Cond.instanceMethod ({ cls := "BlockMeshModel", name := "goes", desc := "(J)Z" } : MethodName)) ∈ WG := mo_wg (mo_t3 (List.mem_of_getElem? (i := 150) rfl)) rfl
theorem wd_3_151 : (Cond.code ({ cls := "BlockMeshModel", name := "goes", desc := "(J)Z" } : MethodName) prog_9_method_19_code (7 : Nat) (Option.some FieldType.boolean)) ∈ WG := mo_wg (mo_t3 (List.mem_of_getElem? (i := 151) rfl)) rfl
theorem wd_3_152 : (Cond.methodLink "BlockMeshModel" (143 : Nat) ({ cls := "BlockMeshModel", name := "many", desc := "(J)I" } : MethodName)) ∈ WG := mo_wg (mo_t3 (List.mem_of_getElem? (i := 152) rfl)) rfl
theorem wd_3_153 : (Cond.static ({ cls := "BlockMeshModel", name := "many", desc := "(J)I" } : MethodName)) ∈ WG := mo_wg (mo_t3 (List.mem_of_getElem? (i := 153) rfl)) rfl
theorem wd_3_154 : (Cond.code ({ cls := "BlockMeshModel", name := "many", desc := "(J)I" } : MethodName) prog_9_method_16_code (4 : Nat) (Option.some FieldType.int)) ∈ WG := mo_wg (mo_t3 (List.mem_of_getElem? (i := 154) rfl)) rfl
theorem wd_3_155 : (Cond.methodLink "BlockMeshModel" (155 : Nat) ({ cls := "BlockMeshModel", name := "line", desc := "()V" } : MethodName)) ∈ WG := mo_wg (mo_t3 (List.mem_of_getElem? (i := 155) rfl)) rfl
theorem wd_3_157 : (Cond.instanceMethod ({ cls := "BlockMeshModel", name := "line", desc := "()V" } : MethodName)) ∈ WG := mo_wg (mo_t3 (List.mem_of_getElem? (i := 157) rfl)) rfl
theorem wd_3_158 : (Cond.code ({ cls := "BlockMeshModel", name := "line", desc := "()V" } : MethodName) prog_9_method_21_code (5 : Nat) (Option.none : Option FieldType)) ∈ WG := mo_wg (mo_t3 (List.mem_of_getElem? (i := 158) rfl)) rfl
theorem wd_3_159 : (Cond.methodLink "BlockMeshModel" (161 : Nat) ({ cls := "BlockMeshModel", name := "pay", desc := "(I)V" } : MethodName)) ∈ WG := mo_wg (mo_t3 (List.mem_of_getElem? (i := 159) rfl)) rfl
theorem wd_3_161 : (Cond.instanceMethod ({ cls := "BlockMeshModel", name := "pay", desc := "(I)V" } : MethodName)) ∈ WG := mo_wg (mo_t3 (List.mem_of_getElem? (i := 161) rfl)) rfl
theorem wd_3_162 : (Cond.code ({ cls := "BlockMeshModel", name := "pay", desc := "(I)V" } : MethodName) prog_9_method_22_code (5 : Nat) (Option.none : Option FieldType)) ∈ WG := mo_wg (mo_t3 (List.mem_of_getElem? (i := 162) rfl)) rfl
theorem wd_3_163 : (Cond.methodLink "BlockMeshModel" (165 : Nat) ({ cls := "BlockMeshModel", name := "fits", desc := "(I)Z" } : MethodName)) ∈ WG := mo_wg (mo_t3 (List.mem_of_getElem? (i := 163) rfl)) rfl
theorem wd_3_165 : (Cond.instanceMethod ({ cls := "BlockMeshModel", name := "fits", desc := "(I)Z" } : MethodName)) ∈ WG := mo_wg (mo_t3 (List.mem_of_getElem? (i := 165) rfl)) rfl
theorem wd_3_166 : (Cond.code ({ cls := "BlockMeshModel", name := "fits", desc := "(I)Z" } : MethodName) prog_9_method_27_code (5 : Nat) (Option.some FieldType.boolean)) ∈ WG := mo_wg (mo_t3 (List.mem_of_getElem? (i := 166) rfl)) rfl
theorem wd_3_167 : (Cond.methodLink "BlockMeshModel" (174 : Nat) ({ cls := "BlockMeshModel", name := "there", desc := "(II)Z" } : MethodName)) ∈ WG := mo_wg (mo_t3 (List.mem_of_getElem? (i := 167) rfl)) rfl
theorem wd_3_169 : (Cond.instanceMethod ({ cls := "BlockMeshModel", name := "there", desc := "(II)Z" } : MethodName)) ∈ WG := mo_wg (mo_t3 (List.mem_of_getElem? (i := 169) rfl)) rfl
theorem wd_3_170 : (Cond.code ({ cls := "BlockMeshModel", name := "there", desc := "(II)Z" } : MethodName) prog_9_method_23_code (3 : Nat) (Option.some FieldType.boolean)) ∈ WG := mo_wg (mo_t3 (List.mem_of_getElem? (i := 170) rfl)) rfl
theorem wd_3_171 : (Cond.methodLink "BlockMeshModel" (177 : Nat) ({ cls := "BlockMeshModel", name := "lockOf", desc := "(II)I" } : MethodName)) ∈ WG := mo_wg (mo_t3 (List.mem_of_getElem? (i := 171) rfl)) rfl
theorem wd_3_173 : (Cond.instanceMethod ({ cls := "BlockMeshModel", name := "lockOf", desc := "(II)I" } : MethodName)) ∈ WG := mo_wg (mo_t3 (List.mem_of_getElem? (i := 173) rfl)) rfl
theorem wd_3_174 : (Cond.code ({ cls := "BlockMeshModel", name := "lockOf", desc := "(II)I" } : MethodName) prog_9_method_25_code (3 : Nat) (Option.some FieldType.int)) ∈ WG := mo_wg (mo_t3 (List.mem_of_getElem? (i := 174) rfl)) rfl
theorem wd_3_175 : (Cond.methodLink "BlockMeshModel" (180 : Nat) ({ cls := "BlockMeshModel", name := "over", desc := "(I)I" } : MethodName)) ∈ WG := mo_wg (mo_t3 (List.mem_of_getElem? (i := 175) rfl)) rfl
theorem wd_3_177 : (Cond.instanceMethod ({ cls := "BlockMeshModel", name := "over", desc := "(I)I" } : MethodName)) ∈ WG := mo_wg (mo_t3 (List.mem_of_getElem? (i := 177) rfl)) rfl
theorem wd_3_178 : (Cond.code ({ cls := "BlockMeshModel", name := "over", desc := "(I)I" } : MethodName) prog_9_method_26_code (4 : Nat) (Option.some FieldType.int)) ∈ WG := mo_wg (mo_t3 (List.mem_of_getElem? (i := 178) rfl)) rfl
theorem wd_3_179 : (Cond.methodLink "BlockMeshModel" (171 : Nat) ({ cls := "BlockMeshModel", name := "worthOf", desc := "(II)I" } : MethodName)) ∈ WG := mo_wg (mo_t3 (List.mem_of_getElem? (i := 179) rfl)) rfl
theorem wd_3_181 : (Cond.instanceMethod ({ cls := "BlockMeshModel", name := "worthOf", desc := "(II)I" } : MethodName)) ∈ WG := mo_wg (mo_t3 (List.mem_of_getElem? (i := 181) rfl)) rfl
theorem wd_3_182 : (Cond.code ({ cls := "BlockMeshModel", name := "worthOf", desc := "(II)I" } : MethodName) prog_9_method_24_code (3 : Nat) (Option.some FieldType.int)) ∈ WG := mo_wg (mo_t3 (List.mem_of_getElem? (i := 182) rfl)) rfl
theorem wd_3_183 : (Cond.methodLink "BlockMeshModel" (168 : Nat) ({ cls := "BlockMeshModel", name := "take", desc := "(I)I" } : MethodName)) ∈ WG := mo_wg (mo_t3 (List.mem_of_getElem? (i := 183) rfl)) rfl
theorem wd_3_185 : (Cond.instanceMethod ({ cls := "BlockMeshModel", name := "take", desc := "(I)I" } : MethodName)) ∈ WG := mo_wg (mo_t3 (List.mem_of_getElem? (i := 185) rfl)) rfl
theorem wd_3_186 : (Cond.code ({ cls := "BlockMeshModel", name := "take", desc := "(I)I" } : MethodName) prog_9_method_28_code (5 : Nat) (Option.some FieldType.int)) ∈ WG := mo_wg (mo_t3 (List.mem_of_getElem? (i := 186) rfl)) rfl
theorem wd_3_187 : (Cond.fieldLink "BlockMeshModel" (98 : Nat) "BlockMeshModel" "limit" "I") ∈ WG := mo_wg (mo_t3 (List.mem_of_getElem? (i := 187) rfl)) rfl
theorem wd_3_188 : (Cond.fieldLink "BlockMeshModel" (110 : Nat) "BlockMeshModel" "made" "I") ∈ WG := mo_wg (mo_t3 (List.mem_of_getElem? (i := 188) rfl)) rfl
theorem wd_3_189 : (Cond.fieldLink "BlockMeshModel" (7 : Nat) "BlockMeshModel" "inputs" "[I") ∈ WG := mo_wg (mo_t3 (List.mem_of_getElem? (i := 189) rfl)) rfl
theorem wd_3_190 : (Cond.fieldLink "BlockMeshModel" (13 : Nat) "BlockMeshModel" "outputs" "[I") ∈ WG := mo_wg (mo_t3 (List.mem_of_getElem? (i := 190) rfl)) rfl
theorem wd_3_191 : (Cond.fieldLink "BlockMeshModel" (16 : Nat) "BlockMeshModel" "source" "[I") ∈ WG := mo_wg (mo_t3 (List.mem_of_getElem? (i := 191) rfl)) rfl
theorem wd_3_192 : (Cond.fieldLink "BlockMeshModel" (19 : Nat) "BlockMeshModel" "index" "[I") ∈ WG := mo_wg (mo_t3 (List.mem_of_getElem? (i := 192) rfl)) rfl
theorem wd_3_193 : (Cond.fieldLink "BlockMeshModel" (22 : Nat) "BlockMeshModel" "secret" "[I") ∈ WG := mo_wg (mo_t3 (List.mem_of_getElem? (i := 193) rfl)) rfl
theorem wd_3_194 : (Cond.fieldLink "BlockMeshModel" (25 : Nat) "BlockMeshModel" "lock" "[I") ∈ WG := mo_wg (mo_t3 (List.mem_of_getElem? (i := 194) rfl)) rfl
theorem wd_3_195 : (Cond.fieldLink "BlockMeshModel" (28 : Nat) "BlockMeshModel" "amount" "[I") ∈ WG := mo_wg (mo_t3 (List.mem_of_getElem? (i := 195) rfl)) rfl
theorem wd_3_196 : (Cond.fieldLink "BlockMeshModel" (31 : Nat) "BlockMeshModel" "id" "[I") ∈ WG := mo_wg (mo_t3 (List.mem_of_getElem? (i := 196) rfl)) rfl
theorem wd_3_197 : (Cond.fieldLink "BlockMeshModel" (34 : Nat) "BlockMeshModel" "blocks" "I") ∈ WG := mo_wg (mo_t3 (List.mem_of_getElem? (i := 197) rfl)) rfl
theorem wd_3_198 : (Cond.fieldLink "BlockMeshModel" (38 : Nat) "BlockMeshModel" "parents" "[I") ∈ WG := mo_wg (mo_t3 (List.mem_of_getElem? (i := 198) rfl)) rfl
theorem wd_3_199 : (Cond.fieldLink "BlockMeshModel" (41 : Nat) "BlockMeshModel" "parent" "[I") ∈ WG := mo_wg (mo_t3 (List.mem_of_getElem? (i := 199) rfl)) rfl
theorem wd_3_200 : (Cond.fieldLink "BlockMeshModel" (44 : Nat) "BlockMeshModel" "holds" "[I") ∈ WG := mo_wg (mo_t3 (List.mem_of_getElem? (i := 200) rfl)) rfl
theorem wd_3_201 : (Cond.fieldLink "BlockMeshModel" (47 : Nat) "BlockMeshModel" "held" "[I") ∈ WG := mo_wg (mo_t3 (List.mem_of_getElem? (i := 201) rfl)) rfl
theorem wd_3_202 : (Cond.fieldLink "BlockMeshModel" (50 : Nat) "BlockMeshModel" "blockLock" "[I") ∈ WG := mo_wg (mo_t3 (List.mem_of_getElem? (i := 202) rfl)) rfl
theorem wd_3_203 : (Cond.fieldLink "BlockMeshModel" (53 : Nat) "BlockMeshModel" "hash" "[I") ∈ WG := mo_wg (mo_t3 (List.mem_of_getElem? (i := 203) rfl)) rfl
theorem wd_3_204 : (Cond.fieldLink "BlockMeshModel" (56 : Nat) "BlockMeshModel" "dag" "J") ∈ WG := mo_wg (mo_t3 (List.mem_of_getElem? (i := 204) rfl)) rfl
theorem wd_3_205 : (Cond.fieldLink "BlockMeshModel" (60 : Nat) "BlockMeshModel" "past" "[J") ∈ WG := mo_wg (mo_t3 (List.mem_of_getElem? (i := 205) rfl)) rfl
theorem wd_3_206 : (Cond.fieldLink "BlockMeshModel" (64 : Nat) "BlockMeshModel" "blues" "[J") ∈ WG := mo_wg (mo_t3 (List.mem_of_getElem? (i := 206) rfl)) rfl
theorem wd_3_207 : (Cond.fieldLink "BlockMeshModel" (67 : Nat) "BlockMeshModel" "score" "[I") ∈ WG := mo_wg (mo_t3 (List.mem_of_getElem? (i := 207) rfl)) rfl
theorem wd_3_208 : (Cond.fieldLink "BlockMeshModel" (70 : Nat) "BlockMeshModel" "selected" "[I") ∈ WG := mo_wg (mo_t3 (List.mem_of_getElem? (i := 208) rfl)) rfl
theorem wd_3_209 : (Cond.fieldLink "BlockMeshModel" (186 : Nat) "BlockMeshModel" "orphans" "I") ∈ WG := mo_wg (mo_t3 (List.mem_of_getElem? (i := 209) rfl)) rfl
theorem wd_3_210 : (Cond.fieldLink "BlockMeshModel" (73 : Nat) "BlockMeshModel" "orphan" "[I") ∈ WG := mo_wg (mo_t3 (List.mem_of_getElem? (i := 210) rfl)) rfl
theorem wd_3_211 : (Cond.fieldLink "BlockMeshModel" (183 : Nat) "BlockMeshModel" "pooled" "I") ∈ WG := mo_wg (mo_t3 (List.mem_of_getElem? (i := 211) rfl)) rfl
theorem wd_3_212 : (Cond.fieldLink "BlockMeshModel" (76 : Nat) "BlockMeshModel" "pool" "[I") ∈ WG := mo_wg (mo_t3 (List.mem_of_getElem? (i := 212) rfl)) rfl
theorem wd_3_213 : (Cond.fieldLink "BlockMeshModel" (158 : Nat) "BlockMeshModel" "places" "I") ∈ WG := mo_wg (mo_t3 (List.mem_of_getElem? (i := 213) rfl)) rfl
theorem wd_3_214 : (Cond.fieldLink "BlockMeshModel" (79 : Nat) "BlockMeshModel" "order" "[I") ∈ WG := mo_wg (mo_t3 (List.mem_of_getElem? (i := 214) rfl)) rfl
theorem wd_3_215 : (Cond.fieldLink "BlockMeshModel" (82 : Nat) "BlockMeshModel" "merged" "[I") ∈ WG := mo_wg (mo_t3 (List.mem_of_getElem? (i := 215) rfl)) rfl
theorem wd_3_216 : (Cond.fieldLink "BlockMeshModel" (85 : Nat) "BlockMeshModel" "accepted" "[Z") ∈ WG := mo_wg (mo_t3 (List.mem_of_getElem? (i := 216) rfl)) rfl
theorem wd_3_217 : (Cond.fieldLink "BlockMeshModel" (89 : Nat) "BlockMeshModel" "free" "[Z") ∈ WG := mo_wg (mo_t3 (List.mem_of_getElem? (i := 217) rfl)) rfl
theorem wd_3_218 : (Cond.fieldLink "BlockMeshModel" (92 : Nat) "BlockMeshModel" "coin" "[Z") ∈ WG := mo_wg (mo_t3 (List.mem_of_getElem? (i := 218) rfl)) rfl
theorem wd_3_219 : (Cond.fieldLink "BlockMeshModel" (95 : Nat) "BlockMeshModel" "worth" "[I") ∈ WG := mo_wg (mo_t3 (List.mem_of_getElem? (i := 219) rfl)) rfl
theorem wd_3_220 : (Cond.laysFinal "BlockMeshModel" "BlockMeshModel" "limit" "I") ∈ WG := mo_wg (mo_t3 (List.mem_of_getElem? (i := 220) rfl)) rfl
theorem wd_3_222 : (Cond.lays "BlockMeshModel" "BlockMeshModel" "made" "I") ∈ WG := mo_wg (mo_t3 (List.mem_of_getElem? (i := 222) rfl)) rfl
theorem wd_3_224 : (Cond.laysFinal "BlockMeshModel" "BlockMeshModel" "inputs" "[I") ∈ WG := mo_wg (mo_t3 (List.mem_of_getElem? (i := 224) rfl)) rfl
theorem wd_3_226 : (Cond.laysFinal "BlockMeshModel" "BlockMeshModel" "outputs" "[I") ∈ WG := mo_wg (mo_t3 (List.mem_of_getElem? (i := 226) rfl)) rfl
theorem wd_3_228 : (Cond.laysFinal "BlockMeshModel" "BlockMeshModel" "source" "[I") ∈ WG := mo_wg (mo_t3 (List.mem_of_getElem? (i := 228) rfl)) rfl
theorem wd_3_230 : (Cond.laysFinal "BlockMeshModel" "BlockMeshModel" "index" "[I") ∈ WG := mo_wg (mo_t3 (List.mem_of_getElem? (i := 230) rfl)) rfl
theorem wd_3_232 : (Cond.laysFinal "BlockMeshModel" "BlockMeshModel" "secret" "[I") ∈ WG := mo_wg (mo_t3 (List.mem_of_getElem? (i := 232) rfl)) rfl
theorem wd_3_234 : (Cond.laysFinal "BlockMeshModel" "BlockMeshModel" "lock" "[I") ∈ WG := mo_wg (mo_t3 (List.mem_of_getElem? (i := 234) rfl)) rfl
theorem wd_3_236 : (Cond.laysFinal "BlockMeshModel" "BlockMeshModel" "amount" "[I") ∈ WG := mo_wg (mo_t3 (List.mem_of_getElem? (i := 236) rfl)) rfl
theorem wd_3_238 : (Cond.laysFinal "BlockMeshModel" "BlockMeshModel" "id" "[I") ∈ WG := mo_wg (mo_t3 (List.mem_of_getElem? (i := 238) rfl)) rfl
theorem wd_4_0 : (Cond.lays "BlockMeshModel" "BlockMeshModel" "blocks" "I") ∈ WG := mo_wg (mo_t4 (List.mem_of_getElem? (i := 0) rfl)) rfl
theorem wd_4_2 : (Cond.laysFinal "BlockMeshModel" "BlockMeshModel" "parents" "[I") ∈ WG := mo_wg (mo_t4 (List.mem_of_getElem? (i := 2) rfl)) rfl
theorem wd_4_4 : (Cond.laysFinal "BlockMeshModel" "BlockMeshModel" "parent" "[I") ∈ WG := mo_wg (mo_t4 (List.mem_of_getElem? (i := 4) rfl)) rfl
theorem wd_4_6 : (Cond.laysFinal "BlockMeshModel" "BlockMeshModel" "holds" "[I") ∈ WG := mo_wg (mo_t4 (List.mem_of_getElem? (i := 6) rfl)) rfl
theorem wd_4_8 : (Cond.laysFinal "BlockMeshModel" "BlockMeshModel" "held" "[I") ∈ WG := mo_wg (mo_t4 (List.mem_of_getElem? (i := 8) rfl)) rfl
theorem wd_4_10 : (Cond.laysFinal "BlockMeshModel" "BlockMeshModel" "blockLock" "[I") ∈ WG := mo_wg (mo_t4 (List.mem_of_getElem? (i := 10) rfl)) rfl
theorem wd_4_12 : (Cond.laysFinal "BlockMeshModel" "BlockMeshModel" "hash" "[I") ∈ WG := mo_wg (mo_t4 (List.mem_of_getElem? (i := 12) rfl)) rfl
theorem wd_4_14 : (Cond.lays "BlockMeshModel" "BlockMeshModel" "dag" "J") ∈ WG := mo_wg (mo_t4 (List.mem_of_getElem? (i := 14) rfl)) rfl
theorem wd_4_16 : (Cond.laysFinal "BlockMeshModel" "BlockMeshModel" "past" "[J") ∈ WG := mo_wg (mo_t4 (List.mem_of_getElem? (i := 16) rfl)) rfl
theorem wd_4_18 : (Cond.laysFinal "BlockMeshModel" "BlockMeshModel" "blues" "[J") ∈ WG := mo_wg (mo_t4 (List.mem_of_getElem? (i := 18) rfl)) rfl
theorem wd_4_20 : (Cond.laysFinal "BlockMeshModel" "BlockMeshModel" "score" "[I") ∈ WG := mo_wg (mo_t4 (List.mem_of_getElem? (i := 20) rfl)) rfl
theorem wd_4_22 : (Cond.laysFinal "BlockMeshModel" "BlockMeshModel" "selected" "[I") ∈ WG := mo_wg (mo_t4 (List.mem_of_getElem? (i := 22) rfl)) rfl
theorem wd_4_24 : (Cond.lays "BlockMeshModel" "BlockMeshModel" "orphans" "I") ∈ WG := mo_wg (mo_t4 (List.mem_of_getElem? (i := 24) rfl)) rfl
theorem wd_4_26 : (Cond.laysFinal "BlockMeshModel" "BlockMeshModel" "orphan" "[I") ∈ WG := mo_wg (mo_t4 (List.mem_of_getElem? (i := 26) rfl)) rfl
theorem wd_4_28 : (Cond.lays "BlockMeshModel" "BlockMeshModel" "pooled" "I") ∈ WG := mo_wg (mo_t4 (List.mem_of_getElem? (i := 28) rfl)) rfl
theorem wd_4_30 : (Cond.laysFinal "BlockMeshModel" "BlockMeshModel" "pool" "[I") ∈ WG := mo_wg (mo_t4 (List.mem_of_getElem? (i := 30) rfl)) rfl
theorem wd_4_32 : (Cond.lays "BlockMeshModel" "BlockMeshModel" "places" "I") ∈ WG := mo_wg (mo_t4 (List.mem_of_getElem? (i := 32) rfl)) rfl
theorem wd_4_34 : (Cond.laysFinal "BlockMeshModel" "BlockMeshModel" "order" "[I") ∈ WG := mo_wg (mo_t4 (List.mem_of_getElem? (i := 34) rfl)) rfl
theorem wd_4_36 : (Cond.laysFinal "BlockMeshModel" "BlockMeshModel" "merged" "[I") ∈ WG := mo_wg (mo_t4 (List.mem_of_getElem? (i := 36) rfl)) rfl
theorem wd_4_38 : (Cond.laysFinal "BlockMeshModel" "BlockMeshModel" "accepted" "[Z") ∈ WG := mo_wg (mo_t4 (List.mem_of_getElem? (i := 38) rfl)) rfl
theorem wd_4_40 : (Cond.laysFinal "BlockMeshModel" "BlockMeshModel" "free" "[Z") ∈ WG := mo_wg (mo_t4 (List.mem_of_getElem? (i := 40) rfl)) rfl
theorem wd_4_42 : (Cond.laysFinal "BlockMeshModel" "BlockMeshModel" "coin" "[Z") ∈ WG := mo_wg (mo_t4 (List.mem_of_getElem? (i := 42) rfl)) rfl
theorem wd_4_44 : (Cond.laysFinal "BlockMeshModel" "BlockMeshModel" "worth" "[I") ∈ WG := mo_wg (mo_t4 (List.mem_of_getElem? (i := 44) rfl)) rfl
theorem wd_4_47 : (Cond.arrayClass FieldType.boolean) ∈ WG := mo_wg (mo_t4 (List.mem_of_getElem? (i := 47) rfl)) rfl
theorem wd_4_64 : (Cond.methodLink "BlockMeshModel" (113 : Nat) ({ cls := "BlockMeshModel", name := "isBlock", desc := "(I)Z" } : MethodName)) ∈ WG := mo_wg (mo_t4 (List.mem_of_getElem? (i := 64) rfl)) rfl
theorem wd_4_66 : (Cond.instanceMethod ({ cls := "BlockMeshModel", name := "isBlock", desc := "(I)Z" } : MethodName)) ∈ WG := mo_wg (mo_t4 (List.mem_of_getElem? (i := 66) rfl)) rfl
theorem wd_4_67 : (Cond.code ({ cls := "BlockMeshModel", name := "isBlock", desc := "(I)Z" } : MethodName) prog_9_method_3_code (2 : Nat) (Option.some FieldType.boolean)) ∈ WG := mo_wg (mo_t4 (List.mem_of_getElem? (i := 67) rfl)) rfl
theorem wd_4_80 : (Cond.methodLink "BlockMeshModel" (121 : Nat) ({ cls := "BlockMeshModel", name := "build", desc := "(III)I" } : MethodName)) ∈ WG := mo_wg (mo_t4 (List.mem_of_getElem? (i := 80) rfl)) rfl
theorem wd_4_82 : (Cond.instanceMethod ({ cls := "BlockMeshModel", name := "build", desc := "(III)I" } : MethodName)) ∈ WG := mo_wg (mo_t4 (List.mem_of_getElem? (i := 82) rfl)) rfl
theorem wd_4_83 : (Cond.code ({ cls := "BlockMeshModel", name := "build", desc := "(III)I" } : MethodName) prog_9_method_12_code (6 : Nat) (Option.some FieldType.int)) ∈ WG := mo_wg (mo_t4 (List.mem_of_getElem? (i := 83) rfl)) rfl
theorem wd_4_84 : (Cond.methodLink "BlockMeshModel" (117 : Nat) ({ cls := "BlockMeshModel", name := "hashOf", desc := "(II)I" } : MethodName)) ∈ WG := mo_wg (mo_t4 (List.mem_of_getElem? (i := 84) rfl)) rfl
theorem wd_4_86 : (Cond.instanceMethod ({ cls := "BlockMeshModel", name := "hashOf", desc := "(II)I" } : MethodName)) ∈ WG := mo_wg (mo_t4 (List.mem_of_getElem? (i := 86) rfl)) rfl
theorem wd_4_87 : (Cond.code ({ cls := "BlockMeshModel", name := "hashOf", desc := "(II)I" } : MethodName) prog_9_method_11_code (5 : Nat) (Option.some FieldType.int)) ∈ WG := mo_wg (mo_t4 (List.mem_of_getElem? (i := 87) rfl)) rfl
theorem wd_4_88 : (Cond.constant "BlockMeshModel" (120 : Nat) (536870912 : Int32)) ∈ WG := mo_wg (mo_t4 (List.mem_of_getElem? (i := 88) rfl)) rfl
theorem wd_4_93 : (Cond.methodLink "BlockMeshModel" (192 : Nat) ({ cls := "BlockMeshModel", name := "isOrphan", desc := "(I)Z" } : MethodName)) ∈ WG := mo_wg (mo_t4 (List.mem_of_getElem? (i := 93) rfl)) rfl
theorem wd_4_95 : (Cond.instanceMethod ({ cls := "BlockMeshModel", name := "isOrphan", desc := "(I)Z" } : MethodName)) ∈ WG := mo_wg (mo_t4 (List.mem_of_getElem? (i := 95) rfl)) rfl
theorem wd_4_96 : (Cond.code ({ cls := "BlockMeshModel", name := "isOrphan", desc := "(I)Z" } : MethodName) prog_9_method_30_code (4 : Nat) (Option.some FieldType.boolean)) ∈ WG := mo_wg (mo_t4 (List.mem_of_getElem? (i := 96) rfl)) rfl
theorem wd_4_97 : (Cond.methodLink "BlockMeshModel" (189 : Nat) ({ cls := "BlockMeshModel", name := "complete", desc := "(I)Z" } : MethodName)) ∈ WG := mo_wg (mo_t4 (List.mem_of_getElem? (i := 97) rfl)) rfl
theorem wd_4_99 : (Cond.instanceMethod ({ cls := "BlockMeshModel", name := "complete", desc := "(I)Z" } : MethodName)) ∈ WG := mo_wg (mo_t4 (List.mem_of_getElem? (i := 99) rfl)) rfl
theorem wd_4_100 : (Cond.code ({ cls := "BlockMeshModel", name := "complete", desc := "(I)Z" } : MethodName) prog_9_method_31_code (4 : Nat) (Option.some FieldType.boolean)) ∈ WG := mo_wg (mo_t4 (List.mem_of_getElem? (i := 100) rfl)) rfl
theorem wd_4_101 : (Cond.methodLink "BlockMeshModel" (195 : Nat) ({ cls := "BlockMeshModel", name := "removeOrphan", desc := "(I)V" } : MethodName)) ∈ WG := mo_wg (mo_t4 (List.mem_of_getElem? (i := 101) rfl)) rfl
theorem wd_4_103 : (Cond.instanceMethod ({ cls := "BlockMeshModel", name := "removeOrphan", desc := "(I)V" } : MethodName)) ∈ WG := mo_wg (mo_t4 (List.mem_of_getElem? (i := 103) rfl)) rfl
theorem wd_4_104 : (Cond.code ({ cls := "BlockMeshModel", name := "removeOrphan", desc := "(I)V" } : MethodName) prog_9_method_34_code (3 : Nat) (Option.none : Option FieldType)) ∈ WG := mo_wg (mo_t4 (List.mem_of_getElem? (i := 104) rfl)) rfl
theorem wd_4_105 : (Cond.methodLink "BlockMeshModel" (198 : Nat) ({ cls := "BlockMeshModel", name := "nested", desc := "(I)Z" } : MethodName)) ∈ WG := mo_wg (mo_t4 (List.mem_of_getElem? (i := 105) rfl)) rfl
theorem wd_4_107 : (Cond.instanceMethod ({ cls := "BlockMeshModel", name := "nested", desc := "(I)Z" } : MethodName)) ∈ WG := mo_wg (mo_t4 (List.mem_of_getElem? (i := 107) rfl)) rfl
theorem wd_4_108 : (Cond.code ({ cls := "BlockMeshModel", name := "nested", desc := "(I)Z" } : MethodName) prog_9_method_32_code (5 : Nat) (Option.some FieldType.boolean)) ∈ WG := mo_wg (mo_t4 (List.mem_of_getElem? (i := 108) rfl)) rfl
theorem wd_4_109 : (Cond.methodLink "BlockMeshModel" (201 : Nat) ({ cls := "BlockMeshModel", name := "enter", desc := "(I)V" } : MethodName)) ∈ WG := mo_wg (mo_t4 (List.mem_of_getElem? (i := 109) rfl)) rfl
theorem wd_4_111 : (Cond.instanceMethod ({ cls := "BlockMeshModel", name := "enter", desc := "(I)V" } : MethodName)) ∈ WG := mo_wg (mo_t4 (List.mem_of_getElem? (i := 111) rfl)) rfl
theorem wd_4_112 : (Cond.code ({ cls := "BlockMeshModel", name := "enter", desc := "(I)V" } : MethodName) prog_9_method_33_code (5 : Nat) (Option.none : Option FieldType)) ∈ WG := mo_wg (mo_t4 (List.mem_of_getElem? (i := 112) rfl)) rfl
theorem wd_4_113 : (Cond.methodLink "BlockMeshModel" (204 : Nat) ({ cls := "BlockMeshModel", name := "ripe", desc := "()I" } : MethodName)) ∈ WG := mo_wg (mo_t4 (List.mem_of_getElem? (i := 113) rfl)) rfl
theorem wd_4_115 : (Cond.instanceMethod ({ cls := "BlockMeshModel", name := "ripe", desc := "()I" } : MethodName)) ∈ WG := mo_wg (mo_t4 (List.mem_of_getElem? (i := 115) rfl)) rfl
theorem wd_4_116 : (Cond.code ({ cls := "BlockMeshModel", name := "ripe", desc := "()I" } : MethodName) prog_9_method_35_code (4 : Nat) (Option.some FieldType.int)) ∈ WG := mo_wg (mo_t4 (List.mem_of_getElem? (i := 116) rfl)) rfl
theorem wd_4_117 : (Cond.methodLink "BlockMeshModel" (208 : Nat) ({ cls := "BlockMeshModel", name := "settle", desc := "()V" } : MethodName)) ∈ WG := mo_wg (mo_t4 (List.mem_of_getElem? (i := 117) rfl)) rfl
theorem wd_4_119 : (Cond.instanceMethod ({ cls := "BlockMeshModel", name := "settle", desc := "()V" } : MethodName)) ∈ WG := mo_wg (mo_t4 (List.mem_of_getElem? (i := 119) rfl)) rfl
theorem wd_4_120 : (Cond.code ({ cls := "BlockMeshModel", name := "settle", desc := "()V" } : MethodName) prog_9_method_29_code (4 : Nat) (Option.none : Option FieldType)) ∈ WG := mo_wg (mo_t4 (List.mem_of_getElem? (i := 120) rfl)) rfl
theorem wd_4_133 : (Cond.methodLink "BlockMeshModel" (211 : Nat) ({ cls := "BlockMeshModel", name := "placeOf", desc := "(I)I" } : MethodName)) ∈ WG := mo_wg (mo_t4 (List.mem_of_getElem? (i := 133) rfl)) rfl
theorem wd_4_135 : (Cond.instanceMethod ({ cls := "BlockMeshModel", name := "placeOf", desc := "(I)I" } : MethodName)) ∈ WG := mo_wg (mo_t4 (List.mem_of_getElem? (i := 135) rfl)) rfl
theorem wd_4_136 : (Cond.code ({ cls := "BlockMeshModel", name := "placeOf", desc := "(I)I" } : MethodName) prog_9_method_39_code (3 : Nat) (Option.some FieldType.int)) ∈ WG := mo_wg (mo_t4 (List.mem_of_getElem? (i := 136) rfl)) rfl
