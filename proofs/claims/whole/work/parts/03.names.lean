def R_bm : String := "BlockMesh"
def F_bm : u_T := fun k => match k with
  | 0 => ("BlockMesh", "transactions", "LBlockMesh$Transactions;", true)
  | 1 => ("BlockMesh", "blocks", "LBlockMesh$Blocks;", true)
  | 2 => ("BlockMesh", "plan", "LBlockMesh$BlockPlan;", true)
  | 3 => ("BlockMesh", "templatePlan", "LBlockMesh$BlockPlan;", true)
  | 4 => ("BlockMesh", "dag", "LBlockMesh$Dag;", true)
  | 5 => ("BlockMesh", "orphans", "LBlockMesh$Numbers;", true)
  | 6 => ("BlockMesh", "ledger", "LBlockMesh$Ledger;", true)
  | 7 => ("BlockMesh", "pooled", "LBlockMesh$Numbers;", true)
  | _ => ("BlockMesh", "ahead", "LBlockMesh$Ledger;", true)
def t_bm : Nat → FieldType := fun k => match k with
  | 0 => .object "BlockMesh$Transactions"
  | 1 => .object "BlockMesh$Blocks"
  | 2 => .object "BlockMesh$BlockPlan"
  | 3 => .object "BlockMesh$BlockPlan"
  | 4 => .object "BlockMesh$Dag"
  | 5 => .object "BlockMesh$Numbers"
  | 6 => .object "BlockMesh$Ledger"
  | 7 => .object "BlockMesh$Numbers"
  | _ => .object "BlockMesh$Ledger"
theorem n_bm : ∀ a, a < 9 → ∀ b, b < 9 → a ≠ b → (F_bm a).2.1 ≠ (F_bm b).2.1 := by decide +kernel
theorem t_bm_ok : ∀ k, k < 9 → parseFieldDescriptor (F_bm k).2.2.1 = some (t_bm k) := by decide +kernel
def R_bp : String := "BlockMesh$BlockPlan"
def F_bp : u_T := fun k => match k with
  | 0 => ("BlockMesh$BlockPlan", "parents", "LBlockMesh$Numbers;", true)
  | _ => ("BlockMesh$BlockPlan", "included", "LBlockMesh$Numbers;", true)
def t_bp : Nat → FieldType := fun k => match k with
  | 0 => .object "BlockMesh$Numbers"
  | _ => .object "BlockMesh$Numbers"
theorem n_bp : ∀ a, a < 2 → ∀ b, b < 2 → a ≠ b → (F_bp a).2.1 ≠ (F_bp b).2.1 := by decide +kernel
theorem t_bp_ok : ∀ k, k < 2 → parseFieldDescriptor (F_bp k).2.2.1 = some (t_bp k) := by decide +kernel
def R_bl : String := "BlockMesh$Blocks"
def F_bl : u_T := fun k => match k with
  | 0 => ("BlockMesh$Blocks", "made", "I", false)
  | 1 => ("BlockMesh$Blocks", "parentCounts", "[I", true)
  | 2 => ("BlockMesh$Blocks", "parents", "[I", true)
  | 3 => ("BlockMesh$Blocks", "includedCounts", "[I", true)
  | 4 => ("BlockMesh$Blocks", "included", "[I", true)
  | 5 => ("BlockMesh$Blocks", "locks", "[I", true)
  | _ => ("BlockMesh$Blocks", "hashes", "[I", true)
def t_bl : Nat → FieldType := fun k => match k with
  | 0 => .int
  | 1 => .array .int
  | 2 => .array .int
  | 3 => .array .int
  | 4 => .array .int
  | 5 => .array .int
  | _ => .array .int
theorem n_bl : ∀ a, a < 7 → ∀ b, b < 7 → a ≠ b → (F_bl a).2.1 ≠ (F_bl b).2.1 := by decide +kernel
theorem t_bl_ok : ∀ k, k < 7 → parseFieldDescriptor (F_bl k).2.2.1 = some (t_bl k) := by decide +kernel
def R_dg : String := "BlockMesh$Dag"
def F_dg : u_T := fun k => match k with
  | 0 => ("BlockMesh$Dag", "blocks", "LBlockMesh$Blocks;", true)
  | 1 => ("BlockMesh$Dag", "k", "I", true)
  | 2 => ("BlockMesh$Dag", "members", "J", false)
  | 3 => ("BlockMesh$Dag", "tips", "J", false)
  | 4 => ("BlockMesh$Dag", "past", "[J", true)
  | 5 => ("BlockMesh$Dag", "future", "[J", true)
  | 6 => ("BlockMesh$Dag", "blues", "[J", true)
  | 7 => ("BlockMesh$Dag", "scores", "[I", true)
  | 8 => ("BlockMesh$Dag", "selected", "[I", true)
  | 9 => ("BlockMesh$Dag", "sequence", "[I", true)
  | _ => ("BlockMesh$Dag", "sorted", "[I", true)
def t_dg : Nat → FieldType := fun k => match k with
  | 0 => .object "BlockMesh$Blocks"
  | 1 => .int
  | 2 => .long
  | 3 => .long
  | 4 => .array .long
  | 5 => .array .long
  | 6 => .array .long
  | 7 => .array .int
  | 8 => .array .int
  | 9 => .array .int
  | _ => .array .int
theorem n_dg : ∀ a, a < 11 → ∀ b, b < 11 → a ≠ b → (F_dg a).2.1 ≠ (F_dg b).2.1 := by decide +kernel
theorem t_dg_ok : ∀ k, k < 11 → parseFieldDescriptor (F_dg k).2.2.1 = some (t_dg k) := by decide +kernel
def R_le : String := "BlockMesh$Ledger"
def F_le : u_T := fun k => match k with
  | 0 => ("BlockMesh$Ledger", "transactions", "LBlockMesh$Transactions;", true)
  | 1 => ("BlockMesh$Ledger", "blocks", "LBlockMesh$Blocks;", true)
  | 2 => ("BlockMesh$Ledger", "amounts", "[I", true)
  | _ => ("BlockMesh$Ledger", "accepted", "J", false)
def t_le : Nat → FieldType := fun k => match k with
  | 0 => .object "BlockMesh$Transactions"
  | 1 => .object "BlockMesh$Blocks"
  | 2 => .array .int
  | _ => .long
theorem n_le : ∀ a, a < 4 → ∀ b, b < 4 → a ≠ b → (F_le a).2.1 ≠ (F_le b).2.1 := by decide +kernel
theorem t_le_ok : ∀ k, k < 4 → parseFieldDescriptor (F_le k).2.2.1 = some (t_le k) := by decide +kernel
def R_nu : String := "BlockMesh$Numbers"
def F_nu : u_T := fun k => match k with
  | 0 => ("BlockMesh$Numbers", "held", "[I", true)
  | _ => ("BlockMesh$Numbers", "size", "I", false)
def t_nu : Nat → FieldType := fun k => match k with
  | 0 => .array .int
  | _ => .int
theorem n_nu : ∀ a, a < 2 → ∀ b, b < 2 → a ≠ b → (F_nu a).2.1 ≠ (F_nu b).2.1 := by decide +kernel
theorem t_nu_ok : ∀ k, k < 2 → parseFieldDescriptor (F_nu k).2.2.1 = some (t_nu k) := by decide +kernel
def R_tr : String := "BlockMesh$Transactions"
def F_tr : u_T := fun k => match k with
  | 0 => ("BlockMesh$Transactions", "made", "I", false)
  | 1 => ("BlockMesh$Transactions", "ids", "[I", true)
  | 2 => ("BlockMesh$Transactions", "inputCounts", "[I", true)
  | 3 => ("BlockMesh$Transactions", "inputSlots", "[I", true)
  | 4 => ("BlockMesh$Transactions", "inputFingerprints", "[I", true)
  | 5 => ("BlockMesh$Transactions", "inputOutputs", "[I", true)
  | 6 => ("BlockMesh$Transactions", "inputSecrets", "[I", true)
  | 7 => ("BlockMesh$Transactions", "inputLocks", "[I", true)
  | 8 => ("BlockMesh$Transactions", "outputCounts", "[I", true)
  | 9 => ("BlockMesh$Transactions", "outputLocks", "[I", true)
  | _ => ("BlockMesh$Transactions", "outputAmounts", "[I", true)
def t_tr : Nat → FieldType := fun k => match k with
  | 0 => .int
  | 1 => .array .int
  | 2 => .array .int
  | 3 => .array .int
  | 4 => .array .int
  | 5 => .array .int
  | 6 => .array .int
  | 7 => .array .int
  | 8 => .array .int
  | 9 => .array .int
  | _ => .array .int
theorem n_tr : ∀ a, a < 11 → ∀ b, b < 11 → a ≠ b → (F_tr a).2.1 ≠ (F_tr b).2.1 := by decide +kernel
theorem t_tr_ok : ∀ k, k < 11 → parseFieldDescriptor (F_tr k).2.2.1 = some (t_tr k) := by decide +kernel
def R_mm : String := "BlockMeshModel"
def F_mm : u_T := fun k => match k with
  | 0 => ("BlockMeshModel", "limit", "I", true)
  | 1 => ("BlockMeshModel", "made", "I", false)
  | 2 => ("BlockMeshModel", "inputs", "[I", true)
  | 3 => ("BlockMeshModel", "outputs", "[I", true)
  | 4 => ("BlockMeshModel", "source", "[I", true)
  | 5 => ("BlockMeshModel", "index", "[I", true)
  | 6 => ("BlockMeshModel", "secret", "[I", true)
  | 7 => ("BlockMeshModel", "lock", "[I", true)
  | 8 => ("BlockMeshModel", "amount", "[I", true)
  | 9 => ("BlockMeshModel", "id", "[I", true)
  | 10 => ("BlockMeshModel", "blocks", "I", false)
  | 11 => ("BlockMeshModel", "parents", "[I", true)
  | 12 => ("BlockMeshModel", "parent", "[I", true)
  | 13 => ("BlockMeshModel", "holds", "[I", true)
  | 14 => ("BlockMeshModel", "held", "[I", true)
  | 15 => ("BlockMeshModel", "blockLock", "[I", true)
  | 16 => ("BlockMeshModel", "hash", "[I", true)
  | 17 => ("BlockMeshModel", "dag", "J", false)
  | 18 => ("BlockMeshModel", "past", "[J", true)
  | 19 => ("BlockMeshModel", "blues", "[J", true)
  | 20 => ("BlockMeshModel", "score", "[I", true)
  | 21 => ("BlockMeshModel", "selected", "[I", true)
  | 22 => ("BlockMeshModel", "orphans", "I", false)
  | 23 => ("BlockMeshModel", "orphan", "[I", true)
  | 24 => ("BlockMeshModel", "pooled", "I", false)
  | 25 => ("BlockMeshModel", "pool", "[I", true)
  | 26 => ("BlockMeshModel", "places", "I", false)
  | 27 => ("BlockMeshModel", "order", "[I", true)
  | 28 => ("BlockMeshModel", "merged", "[I", true)
  | 29 => ("BlockMeshModel", "accepted", "[Z", true)
  | 30 => ("BlockMeshModel", "free", "[Z", true)
  | 31 => ("BlockMeshModel", "coin", "[Z", true)
  | _ => ("BlockMeshModel", "worth", "[I", true)
def t_mm : Nat → FieldType := fun k => match k with
  | 0 => .int
  | 1 => .int
  | 2 => .array .int
  | 3 => .array .int
  | 4 => .array .int
  | 5 => .array .int
  | 6 => .array .int
  | 7 => .array .int
  | 8 => .array .int
  | 9 => .array .int
  | 10 => .int
  | 11 => .array .int
  | 12 => .array .int
  | 13 => .array .int
  | 14 => .array .int
  | 15 => .array .int
  | 16 => .array .int
  | 17 => .long
  | 18 => .array .long
  | 19 => .array .long
  | 20 => .array .int
  | 21 => .array .int
  | 22 => .int
  | 23 => .array .int
  | 24 => .int
  | 25 => .array .int
  | 26 => .int
  | 27 => .array .int
  | 28 => .array .int
  | 29 => .array .boolean
  | 30 => .array .boolean
  | 31 => .array .boolean
  | _ => .array .int
theorem n_mm : ∀ a, a < 33 → ∀ b, b < 33 → a ≠ b → (F_mm a).2.1 ≠ (F_mm b).2.1 := by decide +kernel
theorem t_mm_ok : ∀ k, k < 33 → parseFieldDescriptor (F_mm k).2.2.1 = some (t_mm k) := by decide +kernel
abbrev cl : List vw_C := [(R_bm, F_bm, 9), (R_bp, F_bp, 2), (R_bl, F_bl, 7), (R_dg, F_dg, 11), (R_le, F_le, 4), (R_nu, F_nu, 2), (R_tr, F_tr, 11), (R_mm, F_mm, 33)]
abbrev b_bm_mix : ByteArray := prog_1_method_28_code
def y_bm_mix : MethodName := ⟨"BlockMesh", "mix", "(II)I"⟩
abbrev rm_bm_mix : Room := { frames := 0, cells := 0, slots := 0, locals := 0 }
abbrev b_bl_parentAt : ByteArray := prog_3_method_6_code
def y_bl_parentAt : MethodName := ⟨"BlockMesh$Blocks", "parentAt", "(II)I"⟩
abbrev rm_bl_parentAt : Room := { frames := 0, cells := 0, slots := 0, locals := 0 }
abbrev b_bm_bit : ByteArray := prog_1_method_30_code
def y_bm_bit : MethodName := ⟨"BlockMesh", "bit", "(I)J"⟩
abbrev rm_bm_bit : Room := { frames := 0, cells := 0, slots := 0, locals := 0 }
abbrev b_bl_parentSet : ByteArray := prog_3_method_8_code
def y_bl_parentSet : MethodName := ⟨"BlockMesh$Blocks", "parentSet", "(I)J"⟩
abbrev rm_bl_parentSet : Room := { frames := 1, cells := 0, slots := 0, locals := 22 }
abbrev b_bm_holds : ByteArray := prog_1_method_31_code
def y_bm_holds : MethodName := ⟨"BlockMesh", "holds", "(JI)Z"⟩
abbrev rm_bm_holds : Room := { frames := 0, cells := 0, slots := 0, locals := 0 }
abbrev b_bl_isEarlier : ByteArray := prog_3_method_5_code
def y_bl_isEarlier : MethodName := ⟨"BlockMesh$Blocks", "isEarlier", "(II)Z"⟩
abbrev rm_bl_isEarlier : Room := { frames := 0, cells := 0, slots := 0, locals := 0 }
abbrev b_dg_isHeavier : ByteArray := prog_4_method_17_code
def y_dg_isHeavier : MethodName := ⟨"BlockMesh$Dag", "isHeavier", "(II)Z"⟩
abbrev rm_dg_isHeavier : Room := { frames := 1, cells := 0, slots := 0, locals := 22 }
abbrev b_dg_heaviest : ByteArray := prog_4_method_8_code
def y_dg_heaviest : MethodName := ⟨"BlockMesh$Dag", "heaviest", "(J)I"⟩
abbrev rm_dg_heaviest : Room := { frames := 2, cells := 0, slots := 0, locals := 44 }
abbrev b_dg_pastOf : ByteArray := prog_4_method_15_code
def y_dg_pastOf : MethodName := ⟨"BlockMesh$Dag", "pastOf", "(J)J"⟩
abbrev rm_dg_pastOf : Room := { frames := 1, cells := 0, slots := 0, locals := 22 }
abbrev b_dg_mergedBy : ByteArray := prog_4_method_9_code
def y_dg_mergedBy : MethodName := ⟨"BlockMesh$Dag", "mergedBy", "(I)J"⟩
abbrev rm_dg_mergedBy : Room := { frames := 1, cells := 0, slots := 0, locals := 20 }
abbrev b_dg_isBefore : ByteArray := prog_4_method_18_code
def y_dg_isBefore : MethodName := ⟨"BlockMesh$Dag", "isBefore", "(II)Z"⟩
abbrev rm_dg_isBefore : Room := { frames := 1, cells := 0, slots := 0, locals := 22 }
abbrev b_dg_sortByScore : ByteArray := prog_4_method_16_code
def y_dg_sortByScore : MethodName := ⟨"BlockMesh$Dag", "sortByScore", "(J)I"⟩
abbrev rm_dg_sortByScore : Room := { frames := 2, cells := 0, slots := 0, locals := 44 }
abbrev b_dg_anticone : ByteArray := prog_4_method_14_code
def y_dg_anticone : MethodName := ⟨"BlockMesh$Dag", "anticone", "(I)J"⟩
abbrev rm_dg_anticone : Room := { frames := 1, cells := 0, slots := 0, locals := 20 }
abbrev b_jl_bitCount : ByteArray := prog_10_method_50_code
def y_jl_bitCount : MethodName := ⟨"java/lang/Long", "bitCount", "(J)I"⟩
abbrev rm_jl_bitCount : Room := { frames := 0, cells := 0, slots := 0, locals := 0 }
abbrev b_dg_fits : ByteArray := prog_4_method_13_code
def y_dg_fits : MethodName := ⟨"BlockMesh$Dag", "fits", "(IJ)Z"⟩
abbrev rm_dg_fits : Room := { frames := 2, cells := 0, slots := 0, locals := 41 }
abbrev b_dg_settle : ByteArray := prog_4_method_12_code
def y_dg_settle : MethodName := ⟨"BlockMesh$Dag", "settle", "(IJ)V"⟩
abbrev rm_dg_settle : Room := { frames := 3, cells := 0, slots := 0, locals := 69 }
abbrev b_dg_attach : ByteArray := prog_4_method_10_code
def y_dg_attach : MethodName := ⟨"BlockMesh$Dag", "attach", "(I)V"⟩
abbrev rm_dg_attach : Room := { frames := 4, cells := 0, slots := 0, locals := 97 }
abbrev b_dg_size : ByteArray := prog_4_method_2_code
def y_dg_size : MethodName := ⟨"BlockMesh$Dag", "size", "()I"⟩
abbrev rm_dg_size : Room := { frames := 1, cells := 0, slots := 0, locals := 21 }
abbrev b_dg_settleVirtual : ByteArray := prog_4_method_11_code
def y_dg_settleVirtual : MethodName := ⟨"BlockMesh$Dag", "settleVirtual", "()V"⟩
abbrev rm_dg_settleVirtual : Room := { frames := 4, cells := 0, slots := 0, locals := 97 }
abbrev b_ja_fill : ByteArray := prog_13_method_103_code
def y_ja_fill : MethodName := ⟨"java/util/Arrays", "fill", "([II)V"⟩
abbrev rm_ja_fill : Room := { frames := 0, cells := 0, slots := 0, locals := 0 }
abbrev b_bl_includedAt : ByteArray := prog_3_method_7_code
def y_bl_includedAt : MethodName := ⟨"BlockMesh$Blocks", "includedAt", "(II)I"⟩
abbrev rm_bl_includedAt : Room := { frames := 0, cells := 0, slots := 0, locals := 0 }
abbrev b_le_hasAccepted : ByteArray := prog_5_method_4_code
def y_le_hasAccepted : MethodName := ⟨"BlockMesh$Ledger", "hasAccepted", "(I)Z"⟩
abbrev rm_le_hasAccepted : Room := { frames := 1, cells := 0, slots := 0, locals := 22 }
abbrev b_le_lockOf : ByteArray := prog_5_method_9_code
def y_le_lockOf : MethodName := ⟨"BlockMesh$Ledger", "lockOf", "(I)I"⟩
abbrev rm_le_lockOf : Room := { frames := 0, cells := 0, slots := 0, locals := 0 }
abbrev b_le_inputSum : ByteArray := prog_5_method_8_code
def y_le_inputSum : MethodName := ⟨"BlockMesh$Ledger", "inputSum", "(I)I"⟩
abbrev rm_le_inputSum : Room := { frames := 1, cells := 0, slots := 0, locals := 21 }
abbrev b_tr_outputSum : ByteArray := prog_7_method_9_code
def y_tr_outputSum : MethodName := ⟨"BlockMesh$Transactions", "outputSum", "(I)I"⟩
abbrev rm_tr_outputSum : Room := { frames := 0, cells := 0, slots := 0, locals := 0 }
abbrev b_le_feeOf : ByteArray := prog_5_method_5_code
def y_le_feeOf : MethodName := ⟨"BlockMesh$Ledger", "feeOf", "(I)I"⟩
abbrev rm_le_feeOf : Room := { frames := 2, cells := 0, slots := 0, locals := 47 }
abbrev b_le_accept : ByteArray := prog_5_method_6_code
def y_le_accept : MethodName := ⟨"BlockMesh$Ledger", "accept", "(I)I"⟩
abbrev rm_le_accept : Room := { frames := 3, cells := 0, slots := 0, locals := 70 }
abbrev b_dg_isBlue : ByteArray := prog_4_method_6_code
def y_dg_isBlue : MethodName := ⟨"BlockMesh$Dag", "isBlue", "(I)Z"⟩
abbrev rm_dg_isBlue : Room := { frames := 1, cells := 0, slots := 0, locals := 22 }
abbrev b_le_replay : ByteArray := prog_5_method_3_code
def y_le_replay : MethodName := ⟨"BlockMesh$Ledger", "replay", "(LBlockMesh$Dag;)V"⟩
abbrev rm_le_replay : Room := { frames := 4, cells := 0, slots := 0, locals := 94 }
abbrev b_le_copyFrom : ByteArray := prog_5_method_2_code
def y_le_copyFrom : MethodName := ⟨"BlockMesh$Ledger", "copyFrom", "(LBlockMesh$Ledger;)V"⟩
abbrev rm_le_copyFrom : Room := { frames := 1, cells := 0, slots := 0, locals := 40 }
abbrev b_nu_at : ByteArray := prog_6_method_5_code
def y_nu_at : MethodName := ⟨"BlockMesh$Numbers", "at", "(I)I"⟩
abbrev rm_nu_at : Room := { frames := 0, cells := 0, slots := 0, locals := 0 }
abbrev b_nu_removeAt : ByteArray := prog_6_method_6_code
def y_nu_removeAt : MethodName := ⟨"BlockMesh$Numbers", "removeAt", "(I)V"⟩
abbrev rm_nu_removeAt : Room := { frames := 0, cells := 0, slots := 0, locals := 0 }
abbrev b_bm_followDag : ByteArray := prog_1_method_27_code
def y_bm_followDag : MethodName := ⟨"BlockMesh", "followDag", "()V"⟩
abbrev rm_bm_followDag : Room := { frames := 5, cells := 0, slots := 0, locals := 121 }
abbrev b_bm_slotOf : ByteArray := prog_1_method_32_code
def y_bm_slotOf : MethodName := ⟨"BlockMesh", "slotOf", "(II)I"⟩
abbrev rm_bm_slotOf : Room := { frames := 0, cells := 0, slots := 0, locals := 0 }
abbrev b_tr_has : ByteArray := prog_7_method_2_code
def y_tr_has : MethodName := ⟨"BlockMesh$Transactions", "has", "(I)Z"⟩
abbrev rm_tr_has : Room := { frames := 0, cells := 0, slots := 0, locals := 0 }
abbrev b_bl_has : ByteArray := prog_3_method_2_code
def y_bl_has : MethodName := ⟨"BlockMesh$Blocks", "has", "(I)Z"⟩
abbrev rm_bl_has : Room := { frames := 0, cells := 0, slots := 0, locals := 0 }
abbrev b_bm_isSource : ByteArray := prog_1_method_20_code
def y_bm_isSource : MethodName := ⟨"BlockMesh", "isSource", "(I)Z"⟩
abbrev rm_bm_isSource : Room := { frames := 1, cells := 0, slots := 0, locals := 21 }
abbrev b_bm_fingerprintOf : ByteArray := prog_1_method_21_code
def y_bm_fingerprintOf : MethodName := ⟨"BlockMesh", "fingerprintOf", "(I)I"⟩
abbrev rm_bm_fingerprintOf : Room := { frames := 0, cells := 0, slots := 0, locals := 0 }
abbrev b_bm_lockFor : ByteArray := prog_1_method_29_code
def y_bm_lockFor : MethodName := ⟨"BlockMesh", "lockFor", "(I)I"⟩
abbrev rm_bm_lockFor : Room := { frames := 1, cells := 0, slots := 0, locals := 22 }
abbrev b_tr_putInput : ByteArray := prog_7_method_4_code
def y_tr_putInput : MethodName := ⟨"BlockMesh$Transactions", "putInput", "(IIII)Z"⟩
abbrev rm_tr_putInput : Room := { frames := 2, cells := 0, slots := 0, locals := 42 }
abbrev b_bm_input : ByteArray := prog_1_method_2_code
def y_bm_input : MethodName := ⟨"BlockMesh", "input", "(III)Z"⟩
abbrev rm_bm_input : Room := { frames := 3, cells := 0, slots := 0, locals := 67 }
abbrev b_tr_putOutput : ByteArray := prog_7_method_5_code
def y_tr_putOutput : MethodName := ⟨"BlockMesh$Transactions", "putOutput", "(II)Z"⟩
abbrev rm_tr_putOutput : Room := { frames := 0, cells := 0, slots := 0, locals := 0 }
abbrev b_bm_output : ByteArray := prog_1_method_3_code
def y_bm_output : MethodName := ⟨"BlockMesh", "output", "(II)Z"⟩
abbrev rm_bm_output : Room := { frames := 2, cells := 0, slots := 0, locals := 42 }
abbrev b_tr_draftId : ByteArray := prog_7_method_8_code
def y_tr_draftId : MethodName := ⟨"BlockMesh$Transactions", "draftId", "()I"⟩
abbrev rm_tr_draftId : Room := { frames := 1, cells := 0, slots := 0, locals := 22 }
abbrev b_tr_finish : ByteArray := prog_7_method_7_code
def y_tr_finish : MethodName := ⟨"BlockMesh$Transactions", "finish", "()I"⟩
abbrev rm_tr_finish : Room := { frames := 2, cells := 0, slots := 0, locals := 46 }
abbrev b_bm_transaction : ByteArray := prog_1_method_4_code
def y_bm_transaction : MethodName := ⟨"BlockMesh", "transaction", "()I"⟩
abbrev rm_bm_transaction : Room := { frames := 3, cells := 0, slots := 0, locals := 66 }
abbrev b_nu_isFull : ByteArray := prog_6_method_2_code
def y_nu_isFull : MethodName := ⟨"BlockMesh$Numbers", "isFull", "()Z"⟩
abbrev rm_nu_isFull : Room := { frames := 0, cells := 0, slots := 0, locals := 0 }
abbrev b_nu_has : ByteArray := prog_6_method_3_code
def y_nu_has : MethodName := ⟨"BlockMesh$Numbers", "has", "(I)Z"⟩
abbrev rm_nu_has : Room := { frames := 0, cells := 0, slots := 0, locals := 0 }
abbrev b_nu_addNew : ByteArray := prog_6_method_4_code
def y_nu_addNew : MethodName := ⟨"BlockMesh$Numbers", "addNew", "(I)Z"⟩
abbrev rm_nu_addNew : Room := { frames := 1, cells := 0, slots := 0, locals := 22 }
abbrev b_bm_parent : ByteArray := prog_1_method_5_code
def y_bm_parent : MethodName := ⟨"BlockMesh", "parent", "(I)Z"⟩
abbrev rm_bm_parent : Room := { frames := 2, cells := 0, slots := 0, locals := 43 }
abbrev b_bm_include : ByteArray := prog_1_method_6_code
def y_bm_include : MethodName := ⟨"BlockMesh", "include", "(I)Z"⟩
abbrev rm_bm_include : Room := { frames := 2, cells := 0, slots := 0, locals := 43 }
abbrev b_bl_isFull : ByteArray := prog_3_method_3_code
def y_bl_isFull : MethodName := ⟨"BlockMesh$Blocks", "isFull", "()Z"⟩
abbrev rm_bl_isFull : Room := { frames := 0, cells := 0, slots := 0, locals := 0 }
abbrev b_bl_workedHash : ByteArray := prog_3_method_10_code
def y_bl_workedHash : MethodName := ⟨"BlockMesh$Blocks", "workedHash", "(II)I"⟩
abbrev rm_bl_workedHash : Room := { frames := 1, cells := 0, slots := 0, locals := 22 }
abbrev b_bl_build : ByteArray := prog_3_method_9_code
def y_bl_build : MethodName := ⟨"BlockMesh$Blocks", "build", "(LBlockMesh$BlockPlan;LBlockMesh$Transactions;II)I"⟩
abbrev rm_bl_build : Room := { frames := 2, cells := 0, slots := 0, locals := 45 }
abbrev b_bp_forget : ByteArray := prog_2_method_2_code
def y_bp_forget : MethodName := ⟨"BlockMesh$BlockPlan", "forget", "()V"⟩
abbrev rm_bp_forget : Room := { frames := 0, cells := 0, slots := 0, locals := 0 }
abbrev b_bm_make : ByteArray := prog_1_method_7_code
def y_bm_make : MethodName := ⟨"BlockMesh", "make", "(II)I"⟩
abbrev rm_bm_make : Room := { frames := 3, cells := 0, slots := 0, locals := 73 }
abbrev b_tr_forgetDraft : ByteArray := prog_7_method_6_code
def y_tr_forgetDraft : MethodName := ⟨"BlockMesh$Transactions", "forgetDraft", "()V"⟩
abbrev rm_tr_forgetDraft : Room := { frames := 0, cells := 0, slots := 0, locals := 0 }
abbrev b_bm_clear : ByteArray := prog_1_method_8_code
def y_bm_clear : MethodName := ⟨"BlockMesh", "clear", "()V"⟩
abbrev rm_bm_clear : Room := { frames := 1, cells := 0, slots := 0, locals := 20 }
abbrev b_bm_template : ByteArray := prog_1_method_9_code
def y_bm_template : MethodName := ⟨"BlockMesh", "template", "(II)I"⟩
abbrev rm_bm_template : Room := { frames := 3, cells := 0, slots := 0, locals := 73 }
abbrev b_bl_isWorked : ByteArray := prog_3_method_4_code
def y_bl_isWorked : MethodName := ⟨"BlockMesh$Blocks", "isWorked", "(I)Z"⟩
abbrev rm_bl_isWorked : Room := { frames := 0, cells := 0, slots := 0, locals := 0 }
abbrev b_dg_has : ByteArray := prog_4_method_3_code
def y_dg_has : MethodName := ⟨"BlockMesh$Dag", "has", "(I)Z"⟩
abbrev rm_dg_has : Room := { frames := 1, cells := 0, slots := 0, locals := 22 }
abbrev b_dg_hasParentsOf : ByteArray := prog_4_method_4_code
def y_dg_hasParentsOf : MethodName := ⟨"BlockMesh$Dag", "hasParentsOf", "(I)Z"⟩
abbrev rm_dg_hasParentsOf : Room := { frames := 2, cells := 0, slots := 0, locals := 46 }
abbrev b_bm_keepOrphan : ByteArray := prog_1_method_23_code
def y_bm_keepOrphan : MethodName := ⟨"BlockMesh", "keepOrphan", "(I)V"⟩
abbrev rm_bm_keepOrphan : Room := { frames := 2, cells := 0, slots := 0, locals := 43 }
abbrev b_dg_parentsOverlap : ByteArray := prog_4_method_5_code
def y_dg_parentsOverlap : MethodName := ⟨"BlockMesh$Dag", "parentsOverlap", "(I)Z"⟩
abbrev rm_dg_parentsOverlap : Room := { frames := 2, cells := 0, slots := 0, locals := 47 }
abbrev b_bm_readyOrphan : ByteArray := prog_1_method_25_code
def y_bm_readyOrphan : MethodName := ⟨"BlockMesh", "readyOrphan", "()I"⟩
abbrev rm_bm_readyOrphan : Room := { frames := 3, cells := 0, slots := 0, locals := 67 }
abbrev b_bm_attachOrphans : ByteArray := prog_1_method_24_code
def y_bm_attachOrphans : MethodName := ⟨"BlockMesh", "attachOrphans", "()V"⟩
abbrev rm_bm_attachOrphans : Room := { frames := 5, cells := 0, slots := 0, locals := 121 }
abbrev b_bm_receive : ByteArray := prog_1_method_10_code
def y_bm_receive : MethodName := ⟨"BlockMesh", "receive", "(I)I"⟩
abbrev rm_bm_receive : Room := { frames := 6, cells := 0, slots := 0, locals := 144 }
abbrev b_bm_submit : ByteArray := prog_1_method_11_code
def y_bm_submit : MethodName := ⟨"BlockMesh", "submit", "(I)I"⟩
abbrev rm_bm_submit : Room := { frames := 4, cells := 0, slots := 0, locals := 94 }
abbrev b_bm_standingOf : ByteArray := prog_1_method_22_code
def y_bm_standingOf : MethodName := ⟨"BlockMesh", "standingOf", "(I)I"⟩
abbrev rm_bm_standingOf : Room := { frames := 2, cells := 0, slots := 0, locals := 43 }
abbrev b_dg_placeOf : ByteArray := prog_4_method_7_code
def y_dg_placeOf : MethodName := ⟨"BlockMesh$Dag", "placeOf", "(I)I"⟩
abbrev rm_dg_placeOf : Room := { frames := 2, cells := 0, slots := 0, locals := 41 }
abbrev b_bm_block : ByteArray := prog_1_method_12_code
def y_bm_block : MethodName := ⟨"BlockMesh", "block", "(II)I"⟩
abbrev rm_bm_block : Room := { frames := 3, cells := 0, slots := 0, locals := 64 }
abbrev b_bm_order : ByteArray := prog_1_method_13_code
def y_bm_order : MethodName := ⟨"BlockMesh", "order", "(I)I"⟩
abbrev rm_bm_order : Room := { frames := 2, cells := 0, slots := 0, locals := 41 }
abbrev b_bm_unspent : ByteArray := prog_1_method_14_code
def y_bm_unspent : MethodName := ⟨"BlockMesh", "unspent", "(II)I"⟩
abbrev rm_bm_unspent : Room := { frames := 1, cells := 0, slots := 0, locals := 21 }
abbrev b_bm_pool : ByteArray := prog_1_method_15_code
def y_bm_pool : MethodName := ⟨"BlockMesh", "pool", "(I)I"⟩
abbrev rm_bm_pool : Room := { frames := 1, cells := 0, slots := 0, locals := 21 }
abbrev b_bm_missingParents : ByteArray := prog_1_method_26_code
def y_bm_missingParents : MethodName := ⟨"BlockMesh", "missingParents", "()J"⟩
abbrev rm_bm_missingParents : Room := { frames := 2, cells := 0, slots := 0, locals := 46 }
abbrev b_bm_wanted : ByteArray := prog_1_method_16_code
def y_bm_wanted : MethodName := ⟨"BlockMesh", "wanted", "(I)I"⟩
abbrev rm_bm_wanted : Room := { frames := 3, cells := 0, slots := 0, locals := 71 }
abbrev b_bm_parentOf : ByteArray := prog_1_method_17_code
def y_bm_parentOf : MethodName := ⟨"BlockMesh", "parentOf", "(II)I"⟩
abbrev rm_bm_parentOf : Room := { frames := 1, cells := 0, slots := 0, locals := 22 }
abbrev b_tr_lastId : ByteArray := prog_7_method_3_code
def y_tr_lastId : MethodName := ⟨"BlockMesh$Transactions", "lastId", "()I"⟩
abbrev rm_tr_lastId : Room := { frames := 0, cells := 0, slots := 0, locals := 0 }
abbrev b_bm_count : ByteArray := prog_1_method_18_code
def y_bm_count : MethodName := ⟨"BlockMesh", "count", "(I)I"⟩
abbrev rm_bm_count : Room := { frames := 2, cells := 0, slots := 0, locals := 41 }
abbrev b_le_sum : ByteArray := prog_5_method_7_code
def y_le_sum : MethodName := ⟨"BlockMesh$Ledger", "sum", "()I"⟩
abbrev rm_le_sum : Room := { frames := 1, cells := 0, slots := 0, locals := 24 }
abbrev b_bm_total : ByteArray := prog_1_method_19_code
def y_bm_total : MethodName := ⟨"BlockMesh", "total", "()I"⟩
abbrev rm_bm_total : Room := { frames := 2, cells := 0, slots := 0, locals := 46 }
abbrev b_mm_mix : ByteArray := prog_9_method_2_code
def y_mm_mix : MethodName := ⟨"BlockMeshModel", "mix", "(II)I"⟩
abbrev rm_mm_mix : Room := { frames := 0, cells := 0, slots := 0, locals := 0 }
abbrev b_mm_in : ByteArray := prog_9_method_4_code
def y_mm_in : MethodName := ⟨"BlockMeshModel", "in", "(JI)Z"⟩
abbrev rm_mm_in : Room := { frames := 0, cells := 0, slots := 0, locals := 0 }
abbrev b_mm_tips : ByteArray := prog_9_method_15_code
def y_mm_tips : MethodName := ⟨"BlockMeshModel", "tips", "()J"⟩
abbrev rm_mm_tips : Room := { frames := 1, cells := 0, slots := 0, locals := 22 }
abbrev b_mm_earlier : ByteArray := prog_9_method_14_code
def y_mm_earlier : MethodName := ⟨"BlockMeshModel", "earlier", "(II)Z"⟩
abbrev rm_mm_earlier : Room := { frames := 0, cells := 0, slots := 0, locals := 0 }
abbrev b_mm_merge : ByteArray := prog_9_method_18_code
def y_mm_merge : MethodName := ⟨"BlockMeshModel", "merge", "(I)I"⟩
abbrev rm_mm_merge : Room := { frames := 1, cells := 0, slots := 0, locals := 22 }
abbrev b_mm_goes : ByteArray := prog_9_method_19_code
def y_mm_goes : MethodName := ⟨"BlockMeshModel", "goes", "(J)Z"⟩
abbrev rm_mm_goes : Room := { frames := 1, cells := 0, slots := 0, locals := 22 }
abbrev b_mm_many : ByteArray := prog_9_method_16_code
def y_mm_many : MethodName := ⟨"BlockMeshModel", "many", "(J)I"⟩
abbrev rm_mm_many : Room := { frames := 1, cells := 0, slots := 0, locals := 22 }
abbrev b_mm_work : ByteArray := prog_9_method_17_code
def y_mm_work : MethodName := ⟨"BlockMeshModel", "work", "(IJ)V"⟩
abbrev rm_mm_work : Room := { frames := 2, cells := 0, slots := 0, locals := 49 }
abbrev b_mm_line : ByteArray := prog_9_method_21_code
def y_mm_line : MethodName := ⟨"BlockMeshModel", "line", "()V"⟩
abbrev rm_mm_line : Room := { frames := 2, cells := 0, slots := 0, locals := 49 }
abbrev b_mm_there : ByteArray := prog_9_method_23_code
def y_mm_there : MethodName := ⟨"BlockMeshModel", "there", "(II)Z"⟩
abbrev rm_mm_there : Room := { frames := 0, cells := 0, slots := 0, locals := 0 }
abbrev b_mm_lockOf : ByteArray := prog_9_method_25_code
def y_mm_lockOf : MethodName := ⟨"BlockMeshModel", "lockOf", "(II)I"⟩
abbrev rm_mm_lockOf : Room := { frames := 0, cells := 0, slots := 0, locals := 0 }
abbrev b_mm_worthOf : ByteArray := prog_9_method_24_code
def y_mm_worthOf : MethodName := ⟨"BlockMeshModel", "worthOf", "(II)I"⟩
abbrev rm_mm_worthOf : Room := { frames := 0, cells := 0, slots := 0, locals := 0 }
abbrev b_mm_over : ByteArray := prog_9_method_26_code
def y_mm_over : MethodName := ⟨"BlockMeshModel", "over", "(I)I"⟩
abbrev rm_mm_over : Room := { frames := 1, cells := 0, slots := 0, locals := 22 }
abbrev b_mm_fits : ByteArray := prog_9_method_27_code
def y_mm_fits : MethodName := ⟨"BlockMeshModel", "fits", "(I)Z"⟩
abbrev rm_mm_fits : Room := { frames := 2, cells := 0, slots := 0, locals := 45 }
abbrev b_mm_take : ByteArray := prog_9_method_28_code
def y_mm_take : MethodName := ⟨"BlockMeshModel", "take", "(I)I"⟩
abbrev rm_mm_take : Room := { frames := 2, cells := 0, slots := 0, locals := 45 }
abbrev b_mm_pay : ByteArray := prog_9_method_22_code
def y_mm_pay : MethodName := ⟨"BlockMeshModel", "pay", "(I)V"⟩
abbrev rm_mm_pay : Room := { frames := 3, cells := 0, slots := 0, locals := 69 }
abbrev b_mm_look : ByteArray := prog_9_method_20_code
def y_mm_look : MethodName := ⟨"BlockMeshModel", "look", "()V"⟩
abbrev rm_mm_look : Room := { frames := 4, cells := 0, slots := 0, locals := 93 }
abbrev b_mm_isBlock : ByteArray := prog_9_method_3_code
def y_mm_isBlock : MethodName := ⟨"BlockMeshModel", "isBlock", "(I)Z"⟩
abbrev rm_mm_isBlock : Room := { frames := 0, cells := 0, slots := 0, locals := 0 }
abbrev b_mm_input : ByteArray := prog_9_method_5_code
def y_mm_input : MethodName := ⟨"BlockMeshModel", "input", "(III)Z"⟩
abbrev rm_mm_input : Room := { frames := 0, cells := 0, slots := 0, locals := 0 }
abbrev b_mm_output : ByteArray := prog_9_method_6_code
def y_mm_output : MethodName := ⟨"BlockMeshModel", "output", "(II)Z"⟩
abbrev rm_mm_output : Room := { frames := 1, cells := 0, slots := 0, locals := 22 }
abbrev b_mm_transaction : ByteArray := prog_9_method_7_code
def y_mm_transaction : MethodName := ⟨"BlockMeshModel", "transaction", "()I"⟩
abbrev rm_mm_transaction : Room := { frames := 1, cells := 0, slots := 0, locals := 22 }
abbrev b_mm_parent : ByteArray := prog_9_method_8_code
def y_mm_parent : MethodName := ⟨"BlockMeshModel", "parent", "(I)Z"⟩
abbrev rm_mm_parent : Room := { frames := 1, cells := 0, slots := 0, locals := 21 }
abbrev b_mm_include : ByteArray := prog_9_method_9_code
def y_mm_include : MethodName := ⟨"BlockMeshModel", "include", "(I)Z"⟩
abbrev rm_mm_include : Room := { frames := 0, cells := 0, slots := 0, locals := 0 }
abbrev b_mm_clear : ByteArray := prog_9_method_10_code
def y_mm_clear : MethodName := ⟨"BlockMeshModel", "clear", "()V"⟩
abbrev rm_mm_clear : Room := { frames := 0, cells := 0, slots := 0, locals := 0 }
abbrev b_mm_hashOf : ByteArray := prog_9_method_11_code
def y_mm_hashOf : MethodName := ⟨"BlockMeshModel", "hashOf", "(II)I"⟩
abbrev rm_mm_hashOf : Room := { frames := 1, cells := 0, slots := 0, locals := 22 }
abbrev b_mm_build : ByteArray := prog_9_method_12_code
def y_mm_build : MethodName := ⟨"BlockMeshModel", "build", "(III)I"⟩
abbrev rm_mm_build : Room := { frames := 2, cells := 0, slots := 0, locals := 46 }
abbrev b_mm_make : ByteArray := prog_9_method_13_code
def y_mm_make : MethodName := ⟨"BlockMeshModel", "make", "(II)I"⟩
abbrev rm_mm_make : Room := { frames := 3, cells := 0, slots := 0, locals := 71 }
abbrev b_mm_settle : ByteArray := prog_9_method_29_code
def y_mm_settle : MethodName := ⟨"BlockMeshModel", "settle", "()V"⟩
abbrev rm_mm_settle : Room := { frames := 5, cells := 0, slots := 0, locals := 114 }
abbrev b_mm_isOrphan : ByteArray := prog_9_method_30_code
def y_mm_isOrphan : MethodName := ⟨"BlockMeshModel", "isOrphan", "(I)Z"⟩
abbrev rm_mm_isOrphan : Room := { frames := 0, cells := 0, slots := 0, locals := 0 }
abbrev b_mm_complete : ByteArray := prog_9_method_31_code
def y_mm_complete : MethodName := ⟨"BlockMeshModel", "complete", "(I)Z"⟩
abbrev rm_mm_complete : Room := { frames := 1, cells := 0, slots := 0, locals := 22 }
abbrev b_mm_nested : ByteArray := prog_9_method_32_code
def y_mm_nested : MethodName := ⟨"BlockMeshModel", "nested", "(I)Z"⟩
abbrev rm_mm_nested : Room := { frames := 1, cells := 0, slots := 0, locals := 22 }
abbrev b_mm_enter : ByteArray := prog_9_method_33_code
def y_mm_enter : MethodName := ⟨"BlockMeshModel", "enter", "(I)V"⟩
abbrev rm_mm_enter : Room := { frames := 3, cells := 0, slots := 0, locals := 79 }
abbrev b_mm_removeOrphan : ByteArray := prog_9_method_34_code
def y_mm_removeOrphan : MethodName := ⟨"BlockMeshModel", "removeOrphan", "(I)V"⟩
abbrev rm_mm_removeOrphan : Room := { frames := 0, cells := 0, slots := 0, locals := 0 }
abbrev b_mm_ripe : ByteArray := prog_9_method_35_code
def y_mm_ripe : MethodName := ⟨"BlockMeshModel", "ripe", "()I"⟩
abbrev rm_mm_ripe : Room := { frames := 2, cells := 0, slots := 0, locals := 45 }
abbrev b_mm_receive : ByteArray := prog_9_method_36_code
def y_mm_receive : MethodName := ⟨"BlockMeshModel", "receive", "(I)I"⟩
abbrev rm_mm_receive : Room := { frames := 6, cells := 0, slots := 0, locals := 137 }
abbrev b_mm_submit : ByteArray := prog_9_method_37_code
def y_mm_submit : MethodName := ⟨"BlockMeshModel", "submit", "(I)I"⟩
abbrev rm_mm_submit : Room := { frames := 6, cells := 0, slots := 0, locals := 137 }
abbrev b_mm_template : ByteArray := prog_9_method_38_code
def y_mm_template : MethodName := ⟨"BlockMeshModel", "template", "(II)I"⟩
abbrev rm_mm_template : Room := { frames := 3, cells := 0, slots := 0, locals := 71 }
abbrev b_mm_placeOf : ByteArray := prog_9_method_39_code
def y_mm_placeOf : MethodName := ⟨"BlockMeshModel", "placeOf", "(I)I"⟩
abbrev rm_mm_placeOf : Room := { frames := 0, cells := 0, slots := 0, locals := 0 }
abbrev b_mm_block : ByteArray := prog_9_method_40_code
def y_mm_block : MethodName := ⟨"BlockMeshModel", "block", "(II)I"⟩
abbrev rm_mm_block : Room := { frames := 2, cells := 0, slots := 0, locals := 45 }
abbrev b_mm_order : ByteArray := prog_9_method_41_code
def y_mm_order : MethodName := ⟨"BlockMeshModel", "order", "(I)I"⟩
abbrev rm_mm_order : Room := { frames := 0, cells := 0, slots := 0, locals := 0 }
abbrev b_mm_unspent : ByteArray := prog_9_method_42_code
def y_mm_unspent : MethodName := ⟨"BlockMeshModel", "unspent", "(II)I"⟩
abbrev rm_mm_unspent : Room := { frames := 1, cells := 0, slots := 0, locals := 22 }
abbrev b_mm_pool : ByteArray := prog_9_method_43_code
def y_mm_pool : MethodName := ⟨"BlockMeshModel", "pool", "(I)I"⟩
abbrev rm_mm_pool : Room := { frames := 0, cells := 0, slots := 0, locals := 0 }
abbrev b_mm_wanted : ByteArray := prog_9_method_44_code
def y_mm_wanted : MethodName := ⟨"BlockMeshModel", "wanted", "(I)I"⟩
abbrev rm_mm_wanted : Room := { frames := 1, cells := 0, slots := 0, locals := 23 }
abbrev b_mm_parentOf : ByteArray := prog_9_method_45_code
def y_mm_parentOf : MethodName := ⟨"BlockMeshModel", "parentOf", "(II)I"⟩
abbrev rm_mm_parentOf : Room := { frames := 1, cells := 0, slots := 0, locals := 21 }
abbrev b_mm_count : ByteArray := prog_9_method_46_code
def y_mm_count : MethodName := ⟨"BlockMeshModel", "count", "(I)I"⟩
abbrev rm_mm_count : Room := { frames := 2, cells := 0, slots := 0, locals := 46 }
abbrev b_mm_total : ByteArray := prog_9_method_47_code
def y_mm_total : MethodName := ⟨"BlockMeshModel", "total", "()I"⟩
abbrev rm_mm_total : Room := { frames := 0, cells := 0, slots := 0, locals := 0 }
abbrev b_ln_cell : ByteArray := method_2_code
def y_ln_cell : MethodName := ⟨"BlockMeshLaw", "cell", "([II)I"⟩
abbrev rm_ln_cell : Room := { frames := 0, cells := 0, slots := 0, locals := 0 }
abbrev b_tr_init : ByteArray := prog_7_method_1_code
def y_tr_init : MethodName := ⟨"BlockMesh$Transactions", "<init>", "()V"⟩
abbrev rm_tr_init : Room := { frames := 1, cells := 10, slots := 697, locals := 20 }
abbrev b_bl_init : ByteArray := prog_3_method_1_code
def y_bl_init : MethodName := ⟨"BlockMesh$Blocks", "<init>", "()V"⟩
abbrev rm_bl_init : Room := { frames := 1, cells := 6, slots := 660, locals := 22 }
abbrev b_nu_init : ByteArray := prog_6_method_1_code
def y_nu_init : MethodName := ⟨"BlockMesh$Numbers", "<init>", "(I)V"⟩
abbrev rm_nu_init (N : Nat) : Room := { frames := 1, cells := 1, slots := N, locals := 20 }
abbrev b_bp_init : ByteArray := prog_2_method_1_code
def y_bp_init : MethodName := ⟨"BlockMesh$BlockPlan", "<init>", "()V"⟩
abbrev rm_bp_init : Room := { frames := 2, cells := 4, slots := 11, locals := 41 }
abbrev b_dg_init : ByteArray := prog_4_method_1_code
def y_dg_init : MethodName := ⟨"BlockMesh$Dag", "<init>", "(LBlockMesh$Blocks;I)V"⟩
abbrev rm_dg_init : Room := { frames := 1, cells := 7, slots := 424, locals := 20 }
abbrev b_le_init : ByteArray := prog_5_method_1_code
def y_le_init : MethodName := ⟨"BlockMesh$Ledger", "<init>", "(LBlockMesh$Transactions;LBlockMesh$Blocks;)V"⟩
abbrev rm_le_init : Room := { frames := 1, cells := 1, slots := 140, locals := 20 }
abbrev b_bm_init : ByteArray := prog_1_method_1_code
def y_bm_init : MethodName := ⟨"BlockMesh", "<init>", "(I)V"⟩
abbrev rm_bm_init : Room := { frames := 6, cells := 44, slots := 2140, locals := 144 }
abbrev b_mm_init : ByteArray := prog_9_method_1_code
def y_mm_init : MethodName := ⟨"BlockMeshModel", "<init>", "(I)V"⟩
abbrev rm_mm_init : Room := { frames := 5, cells := 26, slots := 1839, locals := 114 }
