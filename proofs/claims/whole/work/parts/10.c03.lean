set_option maxRecDepth 100000 in
set_option maxHeartbeats 4000000 in
theorem c_bm_slotOf (l : Launch) (D : va_G) (cI cL cZ : ClassId) (x0 : Int32) (x1 : Int32) (o : Int32) (h : m_bm_slotOf x0 x1 = some o) : Met l y_bm_slotOf (Cond.code y_bm_slotOf b_bm_slotOf 2 (some .int) :: WG) rm_bm_slotOf (va_Pc [.int x0, .int x1] (mo_Pr D [(cI, .int), (cL, .long), (cZ, .boolean)] [])) (mo_Qr (some (.int o))) 0 0 (fun _ => False) := by
  refine mo_start (by decide) (Nat.le_of_ble_eq_true rfl) ?_
  intro p e s m args below meth c hx hb hr hlocks hml hown hw hv ls hl Q hQ
  obtain ⟨hP, hK, hN⟩ := hv
  have hl : lv_has ls 2 [(0, .int x0), (1, .int x1)] := hl
  unfold m_bm_slotOf at h
  refine lv_iload_n (pc := 0) hx hb d_bm_slotOf_0 rfl (lv_at hl 0 rfl) ?_
  obtain ⟨j25, ej25, h⟩ := mo_jn_e h
  have B25 : ∀ (ls : Array Slot) (hl : lv_has ls 2 [(0, .int x0), (1, .int x1)]) (h : j25 = some o), W p l e rm_bm_slotOf s m args below meth c s.heap [] 0 0 Q (F0 m 25 ls []) := by
    intro ls hl h
    have h := mo_a0 ej25 h
    refine lv_iload_n (pc := 25) hx hb d_bm_slotOf_25 rfl (lv_at hl 0 rfl) ?_
    refine lv_bipush (pc := 26) (v := 100) hx hb d_bm_slotOf_26 (by decide) ?_
    refine lv_icmp_lt (pc := 28) (tgt := 50) hx hb d_bm_slotOf_28 rfl (fun hc => ?_) (fun hc => ?_)
    · have h := mo_t hc h
      refine lv_iconst (pc := 50) (v := (-1)) hx hb d_bm_slotOf_50 (by decide) ?_
      exact mo_retIr hx hb hr hlocks hQ h d_bm_slotOf_51
    · have h := mo_f hc h
      refine lv_iload_n (pc := 31) hx hb d_bm_slotOf_31 rfl (lv_at hl 0 rfl) ?_
      refine lv_sipush (pc := 32) (v := 160) hx hb d_bm_slotOf_32 (by decide) ?_
      refine lv_icmp_ge (pc := 35) (tgt := 50) hx hb d_bm_slotOf_35 rfl (fun hc => ?_) (fun hc => ?_)
      · have h := mo_t hc h
        refine lv_iconst (pc := 50) (v := (-1)) hx hb d_bm_slotOf_50 (by decide) ?_
        exact mo_retIr hx hb hr hlocks hQ h d_bm_slotOf_51
      · have h := mo_f hc h
        refine lv_iload_n (pc := 38) hx hb d_bm_slotOf_38 rfl (lv_at hl 1 rfl) ?_
        refine lv_if_ne (pc := 39) (tgt := 50) hx hb d_bm_slotOf_39 rfl (fun hc => ?_) (fun hc => ?_)
        · have h := mo_f hc h
          refine lv_iconst (pc := 50) (v := (-1)) hx hb d_bm_slotOf_50 (by decide) ?_
          exact mo_retIr hx hb hr hlocks hQ h d_bm_slotOf_51
        · have h := mo_t hc h
          refine lv_bipush (pc := 42) (v := 80) hx hb d_bm_slotOf_42 (by decide) ?_
          refine lv_iload_n (pc := 44) hx hb d_bm_slotOf_44 rfl (lv_at hl 0 rfl) ?_
          refine lv_iadd (pc := 45) hx hb d_bm_slotOf_45 ?_
          refine lv_bipush (pc := 46) (v := 100) hx hb d_bm_slotOf_46 (by decide) ?_
          refine lv_isub (pc := 48) hx hb d_bm_slotOf_48 ?_
          exact mo_retIr hx hb hr hlocks hQ h d_bm_slotOf_49
  refine lv_if_lt (pc := 1) (tgt := 25) hx hb d_bm_slotOf_1 rfl (fun hc => ?_) (fun hc => ?_)
  · have h := mo_t hc h
    exact B25 _ (lv_sub hl [0, 1] rfl) h
  · have h := mo_f hc h
    refine lv_iload_n (pc := 4) hx hb d_bm_slotOf_4 rfl (lv_at hl 0 rfl) ?_
    refine lv_bipush (pc := 5) (v := 40) hx hb d_bm_slotOf_5 (by decide) ?_
    refine lv_icmp_ge (pc := 7) (tgt := 25) hx hb d_bm_slotOf_7 rfl (fun hc => ?_) (fun hc => ?_)
    · have h := mo_t hc h
      exact B25 _ (lv_sub hl [0, 1] rfl) h
    · have h := mo_f hc h
      refine lv_iload_n (pc := 10) hx hb d_bm_slotOf_10 rfl (lv_at hl 1 rfl) ?_
      refine lv_if_lt (pc := 11) (tgt := 25) hx hb d_bm_slotOf_11 rfl (fun hc => ?_) (fun hc => ?_)
      · have h := mo_t hc h
        exact B25 _ (lv_sub hl [0, 1] rfl) h
      · have h := mo_f hc h
        refine lv_iload_n (pc := 14) hx hb d_bm_slotOf_14 rfl (lv_at hl 1 rfl) ?_
        refine lv_iconst (pc := 15) (v := 2) hx hb d_bm_slotOf_15 (by decide) ?_
        refine lv_icmp_ge (pc := 16) (tgt := 25) hx hb d_bm_slotOf_16 rfl (fun hc => ?_) (fun hc => ?_)
        · have h := mo_t hc h
          exact B25 _ (lv_sub hl [0, 1] rfl) h
        · have h := mo_f hc h
          refine lv_iload_n (pc := 19) hx hb d_bm_slotOf_19 rfl (lv_at hl 0 rfl) ?_
          refine lv_iconst (pc := 20) (v := 2) hx hb d_bm_slotOf_20 (by decide) ?_
          refine lv_imul (pc := 21) hx hb d_bm_slotOf_21 ?_
          refine lv_iload_n (pc := 22) hx hb d_bm_slotOf_22 rfl (lv_at hl 1 rfl) ?_
          refine lv_iadd (pc := 23) hx hb d_bm_slotOf_23 ?_
          exact mo_retIr hx hb hr hlocks hQ h d_bm_slotOf_24
set_option maxRecDepth 100000 in
set_option maxHeartbeats 4000000 in
theorem c_tr_has (l : Launch) (D : va_G) (cI cL cZ : ClassId) (a_this : Nat) (a_ids : Nat) (a_inputCounts : Nat) (a_inputSlots : Nat) (a_inputFingerprints : Nat) (a_inputOutputs : Nat) (a_inputSecrets : Nat) (a_inputLocks : Nat) (a_outputCounts : Nat) (a_outputLocks : Nat) (a_outputAmounts : Nat) (v_made : Int32) (x1 : Int32) (o : Int32) (h : m_tr_has v_made x1 = some o) : Met l y_tr_has (Cond.code y_tr_has b_tr_has 2 (some .boolean) :: WG) rm_tr_has (va_Pc [.ref a_this, .int x1] (mo_Pr D [(cI, .int), (cL, .long), (cZ, .boolean)] [(a_this, .inr (6, [.int v_made, .ref a_ids, .ref a_inputCounts, .ref a_inputSlots, .ref a_inputFingerprints, .ref a_inputOutputs, .ref a_inputSecrets, .ref a_inputLocks, .ref a_outputCounts, .ref a_outputLocks, .ref a_outputAmounts]))])) (mo_Qr (some (.int o))) 0 0 (fun _ => False) := by
  refine mo_start (by decide) (Nat.le_of_ble_eq_true rfl) ?_
  intro p e s m args below meth c hx hb hr hlocks hml hown hw hv ls hl Q hQ
  obtain ⟨hP, hK, hN⟩ := hv
  have hl : lv_has ls 2 [(0, .ref a_this), (1, .int x1)] := hl
  unfold m_tr_has at h
  refine lv_iload_n (pc := 0) hx hb d_tr_has_0 rfl (lv_at hl 1 rfl) ?_
  refine lv_if_lt (pc := 1) (tgt := 16) hx hb d_tr_has_1 rfl (fun hc => ?_) (fun hc => ?_)
  · have h := mo_t hc h
    refine lv_iconst (pc := 16) (v := 0) hx hb d_tr_has_16 (by decide) ?_
    exact mo_retZr (mo_nz (by decide)) hx hb hr hlocks hQ h d_tr_has_17
  · have h := mo_f hc h
    refine lv_iload_n (pc := 4) hx hb d_tr_has_4 rfl (lv_at hl 1 rfl) ?_
    refine lv_aload_n (pc := 5) hx hb d_tr_has_5 rfl (lv_at hl 0 rfl) ?_
    refine gf_tr_42 (pc := 6) hx hb hw hN hown hK hP 0 rfl rfl d_tr_has_6 ?_
    refine lv_icmp_ge (pc := 9) (tgt := 16) hx hb d_tr_has_9 rfl (fun hc => ?_) (fun hc => ?_)
    · have h := mo_t hc h
      refine lv_iconst (pc := 16) (v := 0) hx hb d_tr_has_16 (by decide) ?_
      exact mo_retZr (mo_nz (by decide)) hx hb hr hlocks hQ h d_tr_has_17
    · have h := mo_f hc h
      refine lv_iconst (pc := 12) (v := 1) hx hb d_tr_has_12 (by decide) ?_
      refine lv_goto (pc := 13) (tgt := 17) hx hb d_tr_has_13 rfl ?_
      exact mo_retZr (mo_nz (by decide)) hx hb hr hlocks hQ h d_tr_has_17
set_option maxRecDepth 100000 in
set_option maxHeartbeats 4000000 in
theorem c_bl_has (l : Launch) (D : va_G) (cI cL cZ : ClassId) (a_this : Nat) (a_parentCounts : Nat) (a_parents : Nat) (a_includedCounts : Nat) (a_included : Nat) (a_locks : Nat) (a_hashes : Nat) (v_made : Int32) (x1 : Int32) (o : Int32) (h : m_bl_has v_made x1 = some o) : Met l y_bl_has (Cond.code y_bl_has b_bl_has 2 (some .boolean) :: WG) rm_bl_has (va_Pc [.ref a_this, .int x1] (mo_Pr D [(cI, .int), (cL, .long), (cZ, .boolean)] [(a_this, .inr (2, [.int v_made, .ref a_parentCounts, .ref a_parents, .ref a_includedCounts, .ref a_included, .ref a_locks, .ref a_hashes]))])) (mo_Qr (some (.int o))) 0 0 (fun _ => False) := by
  refine mo_start (by decide) (Nat.le_of_ble_eq_true rfl) ?_
  intro p e s m args below meth c hx hb hr hlocks hml hown hw hv ls hl Q hQ
  obtain ⟨hP, hK, hN⟩ := hv
  have hl : lv_has ls 2 [(0, .ref a_this), (1, .int x1)] := hl
  unfold m_bl_has at h
  refine lv_iload_n (pc := 0) hx hb d_bl_has_0 rfl (lv_at hl 1 rfl) ?_
  refine lv_if_lt (pc := 1) (tgt := 16) hx hb d_bl_has_1 rfl (fun hc => ?_) (fun hc => ?_)
  · have h := mo_t hc h
    refine lv_iconst (pc := 16) (v := 0) hx hb d_bl_has_16 (by decide) ?_
    exact mo_retZr (mo_nz (by decide)) hx hb hr hlocks hQ h d_bl_has_17
  · have h := mo_f hc h
    refine lv_iload_n (pc := 4) hx hb d_bl_has_4 rfl (lv_at hl 1 rfl) ?_
    refine lv_aload_n (pc := 5) hx hb d_bl_has_5 rfl (lv_at hl 0 rfl) ?_
    refine gf_bl_35 (pc := 6) hx hb hw hN hown hK hP 0 rfl rfl d_bl_has_6 ?_
    refine lv_icmp_ge (pc := 9) (tgt := 16) hx hb d_bl_has_9 rfl (fun hc => ?_) (fun hc => ?_)
    · have h := mo_t hc h
      refine lv_iconst (pc := 16) (v := 0) hx hb d_bl_has_16 (by decide) ?_
      exact mo_retZr (mo_nz (by decide)) hx hb hr hlocks hQ h d_bl_has_17
    · have h := mo_f hc h
      refine lv_iconst (pc := 12) (v := 1) hx hb d_bl_has_12 (by decide) ?_
      refine lv_goto (pc := 13) (tgt := 17) hx hb d_bl_has_13 rfl ?_
      exact mo_retZr (mo_nz (by decide)) hx hb hr hlocks hQ h d_bl_has_17
set_option maxRecDepth 100000 in
set_option maxHeartbeats 4000000 in
theorem c_bm_isSource (l : Launch) (D : va_G) (cI cL cZ : ClassId) (a_this : Nat) (a_transactions : Nat) (a_blocks : Nat) (a_plan : Nat) (a_templatePlan : Nat) (a_dag : Nat) (a_orphans : Nat) (a_ledger : Nat) (a_pooled : Nat) (a_ahead : Nat) (a_transactions_ids : Nat) (a_transactions_inputCounts : Nat) (a_transactions_inputSlots : Nat) (a_transactions_inputFingerprints : Nat) (a_transactions_inputOutputs : Nat) (a_transactions_inputSecrets : Nat) (a_transactions_inputLocks : Nat) (a_transactions_outputCounts : Nat) (a_transactions_outputLocks : Nat) (a_transactions_outputAmounts : Nat) (a_blocks_parentCounts : Nat) (a_blocks_parents : Nat) (a_blocks_includedCounts : Nat) (a_blocks_included : Nat) (a_blocks_locks : Nat) (a_blocks_hashes : Nat) (v_transactions_made : Int32) (v_blocks_made : Int32) (x1 : Int32) (o : Int32) (h : m_bm_isSource v_transactions_made v_blocks_made x1 = some o) : Met l y_bm_isSource (Cond.code y_bm_isSource b_bm_isSource 2 (some .boolean) :: WG) rm_bm_isSource (va_Pc [.ref a_this, .int x1] (mo_Pr D [(cI, .int), (cL, .long), (cZ, .boolean)] [(a_this, .inr (0, [.ref a_transactions, .ref a_blocks, .ref a_plan, .ref a_templatePlan, .ref a_dag, .ref a_orphans, .ref a_ledger, .ref a_pooled, .ref a_ahead])), (a_transactions, .inr (6, [.int v_transactions_made, .ref a_transactions_ids, .ref a_transactions_inputCounts, .ref a_transactions_inputSlots, .ref a_transactions_inputFingerprints, .ref a_transactions_inputOutputs, .ref a_transactions_inputSecrets, .ref a_transactions_inputLocks, .ref a_transactions_outputCounts, .ref a_transactions_outputLocks, .ref a_transactions_outputAmounts])), (a_blocks, .inr (2, [.int v_blocks_made, .ref a_blocks_parentCounts, .ref a_blocks_parents, .ref a_blocks_includedCounts, .ref a_blocks_included, .ref a_blocks_locks, .ref a_blocks_hashes]))])) (mo_Qr (some (.int o))) 0 0 (fun _ => False) := by
  refine mo_start (by decide) (Nat.le_of_ble_eq_true rfl) ?_
  intro p e s m args below meth c hx hb hr hlocks hml hown hw hv ls hl Q hQ
  obtain ⟨hP, hK, hN⟩ := hv
  have hl : lv_has ls 2 [(0, .ref a_this), (1, .int x1)] := hl
  unfold m_bm_isSource at h
  refine lv_iload_n (pc := 0) hx hb d_bm_isSource_0 rfl (lv_at hl 1 rfl) ?_
  refine lv_bipush (pc := 1) (v := 100) hx hb d_bm_isSource_1 (by decide) ?_
  refine lv_icmp_ge (pc := 3) (tgt := 17) hx hb d_bm_isSource_3 rfl (fun hc => ?_) (fun hc => ?_)
  · have h := mo_t hc h
    refine lv_aload_n (pc := 17) hx hb d_bm_isSource_17 rfl (lv_at hl 0 rfl) ?_
    refine gf_bm_19 (pc := 18) hx hb hw hN hown hK hP 0 rfl rfl d_bm_isSource_18 ?_
    refine lv_iload_n (pc := 21) hx hb d_bm_isSource_21 rfl (lv_at hl 1 rfl) ?_
    refine lv_bipush (pc := 22) (v := 100) hx hb d_bm_isSource_22 (by decide) ?_
    refine lv_isub (pc := 24) hx hb d_bm_isSource_24 ?_
    obtain ⟨r25, hr25, h⟩ := mo_bd_e h
    refine mo_rV (pc := 25) (As := [.int (x1 - 100)]) (rest := []) (st1 := [.int r25]) ⟨hx, hb, hml, hown, hw⟩ (c_bl_has l D cI cL cZ a_blocks a_blocks_parentCounts a_blocks_parents a_blocks_includedCounts a_blocks_included a_blocks_locks a_blocks_hashes v_blocks_made (x1 - 100) r25 hr25) (kV_bm_99 hw ⟨by decide, by decide⟩) (hP.sub [2] rfl) hK hN rfl rfl rfl hl.1 rfl rfl d_bm_isSource_25 rfl ?_
    obtain ⟨hz, h⟩ := mo_bz_e h
    exact mo_retZr (mo_nz hz) hx hb hr hlocks hQ h d_bm_isSource_28
  · have h := mo_f hc h
    refine lv_aload_n (pc := 6) hx hb d_bm_isSource_6 rfl (lv_at hl 0 rfl) ?_
    refine gf_bm_12 (pc := 7) hx hb hw hN hown hK hP 0 rfl rfl d_bm_isSource_7 ?_
    refine lv_iload_n (pc := 10) hx hb d_bm_isSource_10 rfl (lv_at hl 1 rfl) ?_
    obtain ⟨r11, hr11, h⟩ := mo_bd_e h
    refine mo_rV (pc := 11) (As := [.int x1]) (rest := []) (st1 := [.int r11]) ⟨hx, hb, hml, hown, hw⟩ (c_tr_has l D cI cL cZ a_transactions a_transactions_ids a_transactions_inputCounts a_transactions_inputSlots a_transactions_inputFingerprints a_transactions_inputOutputs a_transactions_inputSecrets a_transactions_inputLocks a_transactions_outputCounts a_transactions_outputLocks a_transactions_outputAmounts v_transactions_made x1 r11 hr11) (kV_bm_108 hw ⟨by decide, by decide⟩) (hP.sub [1] rfl) hK hN rfl rfl rfl hl.1 rfl rfl d_bm_isSource_11 rfl ?_
    refine lv_goto (pc := 14) (tgt := 28) hx hb d_bm_isSource_14 rfl ?_
    obtain ⟨hz, h⟩ := mo_bz_e h
    exact mo_retZr (mo_nz hz) hx hb hr hlocks hQ h d_bm_isSource_28
set_option maxRecDepth 100000 in
set_option maxHeartbeats 4000000 in
theorem c_bm_fingerprintOf (l : Launch) (D : va_G) (cI cL cZ : ClassId) (a_this : Nat) (a_transactions : Nat) (a_transactions_ids : Nat) (a_blocks : Nat) (a_blocks_hashes : Nat) (a_plan : Nat) (a_templatePlan : Nat) (a_dag : Nat) (a_orphans : Nat) (a_ledger : Nat) (a_pooled : Nat) (a_ahead : Nat) (a_transactions_inputCounts : Nat) (a_transactions_inputSlots : Nat) (a_transactions_inputFingerprints : Nat) (a_transactions_inputOutputs : Nat) (a_transactions_inputSecrets : Nat) (a_transactions_inputLocks : Nat) (a_transactions_outputCounts : Nat) (a_transactions_outputLocks : Nat) (a_transactions_outputAmounts : Nat) (a_blocks_parentCounts : Nat) (a_blocks_parents : Nat) (a_blocks_includedCounts : Nat) (a_blocks_included : Nat) (a_blocks_locks : Nat) (v_transactions_made : Int32) (v_blocks_made : Int32) (f_transactions_ids : Nat → Int32) (f_blocks_hashes : Nat → Int32) (x1 : Int32) (o : Int32) (h : m_bm_fingerprintOf f_transactions_ids f_blocks_hashes x1 = some o) : Met l y_bm_fingerprintOf (Cond.code y_bm_fingerprintOf b_bm_fingerprintOf 2 (some .int) :: WG) rm_bm_fingerprintOf (va_Pc [.ref a_this, .int x1] (mo_Pr D [(cI, .int), (cL, .long), (cZ, .boolean)] [(a_this, .inr (0, [.ref a_transactions, .ref a_blocks, .ref a_plan, .ref a_templatePlan, .ref a_dag, .ref a_orphans, .ref a_ledger, .ref a_pooled, .ref a_ahead])), (a_transactions, .inr (6, [.int v_transactions_made, .ref a_transactions_ids, .ref a_transactions_inputCounts, .ref a_transactions_inputSlots, .ref a_transactions_inputFingerprints, .ref a_transactions_inputOutputs, .ref a_transactions_inputSecrets, .ref a_transactions_inputLocks, .ref a_transactions_outputCounts, .ref a_transactions_outputLocks, .ref a_transactions_outputAmounts])), (a_transactions_ids, .inl (cI, 41, .inl f_transactions_ids)), (a_blocks, .inr (2, [.int v_blocks_made, .ref a_blocks_parentCounts, .ref a_blocks_parents, .ref a_blocks_includedCounts, .ref a_blocks_included, .ref a_blocks_locks, .ref a_blocks_hashes])), (a_blocks_hashes, .inl (cI, 60, .inl f_blocks_hashes))])) (mo_Qr (some (.int o))) 0 0 (fun _ => False) := by
  refine mo_start (by decide) (Nat.le_of_ble_eq_true rfl) ?_
  intro p e s m args below meth c hx hb hr hlocks hml hown hw hv ls hl Q hQ
  obtain ⟨hP, hK, hN⟩ := hv
  have hl : lv_has ls 2 [(0, .ref a_this), (1, .int x1)] := hl
  unfold m_bm_fingerprintOf at h
  refine lv_iload_n (pc := 0) hx hb d_bm_fingerprintOf_0 rfl (lv_at hl 1 rfl) ?_
  refine lv_bipush (pc := 1) (v := 100) hx hb d_bm_fingerprintOf_1 (by decide) ?_
  refine lv_icmp_ge (pc := 3) (tgt := 18) hx hb d_bm_fingerprintOf_3 rfl (fun hc => ?_) (fun hc => ?_)
  · have h := mo_t hc h
    refine lv_aload_n (pc := 18) hx hb d_bm_fingerprintOf_18 rfl (lv_at hl 0 rfl) ?_
    refine gf_bm_19 (pc := 19) hx hb hw hN hown hK hP 0 rfl rfl d_bm_fingerprintOf_19 ?_
    refine gf_bm_176 (pc := 22) hx hb hw hN hown hK hP 3 rfl rfl d_bm_fingerprintOf_22 ?_
    refine lv_iload_n (pc := 25) hx hb d_bm_fingerprintOf_25 rfl (lv_at hl 1 rfl) ?_
    refine lv_bipush (pc := 26) (v := 100) hx hb d_bm_fingerprintOf_26 (by decide) ?_
    refine lv_isub (pc := 28) hx hb d_bm_fingerprintOf_28 ?_
    obtain ⟨v29, hi29, e29, h⟩ := mo_rI_e h
    refine mo_iald (pc := 29) hx hb hK hP 4 0 rfl rfl hi29 e29 d_bm_fingerprintOf_29 ?_
    exact mo_retIr hx hb hr hlocks hQ h d_bm_fingerprintOf_30
  · have h := mo_f hc h
    refine lv_aload_n (pc := 6) hx hb d_bm_fingerprintOf_6 rfl (lv_at hl 0 rfl) ?_
    refine gf_bm_12 (pc := 7) hx hb hw hN hown hK hP 0 rfl rfl d_bm_fingerprintOf_7 ?_
    refine gf_bm_232 (pc := 10) hx hb hw hN hown hK hP 1 rfl rfl d_bm_fingerprintOf_10 ?_
    refine lv_iload_n (pc := 13) hx hb d_bm_fingerprintOf_13 rfl (lv_at hl 1 rfl) ?_
    obtain ⟨v14, hi14, e14, h⟩ := mo_rI_e h
    refine mo_iald (pc := 14) hx hb hK hP 2 0 rfl rfl hi14 e14 d_bm_fingerprintOf_14 ?_
    refine lv_goto (pc := 15) (tgt := 30) hx hb d_bm_fingerprintOf_15 rfl ?_
    exact mo_retIr hx hb hr hlocks hQ h d_bm_fingerprintOf_30
set_option maxRecDepth 100000 in
set_option maxHeartbeats 4000000 in
theorem c_bm_lockFor (l : Launch) (D : va_G) (cI cL cZ : ClassId) (x0 : Int32) (o : Int32) (h : m_bm_lockFor x0 = some o) : Met l y_bm_lockFor (Cond.code y_bm_lockFor b_bm_lockFor 1 (some .int) :: WG) rm_bm_lockFor (va_Pc [.int x0] (mo_Pr D [(cI, .int), (cL, .long), (cZ, .boolean)] [])) (mo_Qr (some (.int o))) 0 0 (fun _ => False) := by
  refine mo_start (by decide) (Nat.le_of_ble_eq_true rfl) ?_
  intro p e s m args below meth c hx hb hr hlocks hml hown hw hv ls hl Q hQ
  obtain ⟨hP, hK, hN⟩ := hv
  have hl : lv_has ls 1 [(0, .int x0)] := hl
  unfold m_bm_lockFor at h
  refine lv_bipush (pc := 0) (v := 7) hx hb d_bm_lockFor_0 (by decide) ?_
  refine lv_iload_n (pc := 2) hx hb d_bm_lockFor_2 rfl (lv_at hl 0 rfl) ?_
  obtain ⟨r3, hr3, h⟩ := mo_bd_e h
  refine mo_rS (pc := 3) (As := [.int 7, .int x0]) (rest := []) (st1 := [.int r3]) ⟨hx, hb, hml, hown, hw⟩ (c_bm_mix l D cI cL cZ 7 x0 r3 hr3) (kS_bm_263 hw ⟨by decide, by decide⟩) mo_P0 hK hN rfl hl.1 rfl rfl d_bm_lockFor_3 rfl ?_
  exact mo_retIr hx hb hr hlocks hQ h d_bm_lockFor_6
set_option maxRecDepth 100000 in
set_option maxHeartbeats 4000000 in
theorem c_tr_putInput (l : Launch) (D : va_G) (cI cL cZ : ClassId) (a_this : Nat) (a_inputCounts : Nat) (a_inputSlots : Nat) (a_inputFingerprints : Nat) (a_inputOutputs : Nat) (a_inputSecrets : Nat) (a_inputLocks : Nat) (a_ids : Nat) (a_outputCounts : Nat) (a_outputLocks : Nat) (a_outputAmounts : Nat) (v_made : Int32) (f_inputCounts : Nat → Int32) (f_inputSlots : Nat → Int32) (f_inputFingerprints : Nat → Int32) (f_inputOutputs : Nat → Int32) (f_inputSecrets : Nat → Int32) (f_inputLocks : Nat → Int32) (x1 : Int32) (x2 : Int32) (x3 : Int32) (x4 : Int32) (o : Int32 × (Nat → Int32) × (Nat → Int32) × (Nat → Int32) × (Nat → Int32) × (Nat → Int32) × (Nat → Int32)) (h : m_tr_putInput v_made f_inputCounts f_inputSlots f_inputFingerprints f_inputOutputs f_inputSecrets f_inputLocks x1 x2 x3 x4 = some o) : Met l y_tr_putInput (Cond.code y_tr_putInput b_tr_putInput 6 (some .boolean) :: WG) rm_tr_putInput (va_Pc [.ref a_this, .int x1, .int x2, .int x3, .int x4] (mo_Pm D [(cI, .int), (cL, .long), (cZ, .boolean)] [(a_this, .inr (6, [.int v_made, .ref a_ids, .ref a_inputCounts, .ref a_inputSlots, .ref a_inputFingerprints, .ref a_inputOutputs, .ref a_inputSecrets, .ref a_inputLocks, .ref a_outputCounts, .ref a_outputLocks, .ref a_outputAmounts])), (a_inputCounts, .inl (cI, 41, .inl f_inputCounts)), (a_inputSlots, .inl (cI, 82, .inl f_inputSlots)), (a_inputFingerprints, .inl (cI, 82, .inl f_inputFingerprints)), (a_inputOutputs, .inl (cI, 82, .inl f_inputOutputs)), (a_inputSecrets, .inl (cI, 82, .inl f_inputSecrets)), (a_inputLocks, .inl (cI, 82, .inl f_inputLocks))])) (mo_Qm D [(a_this, .inr (6, [.int v_made, .ref a_ids, .ref a_inputCounts, .ref a_inputSlots, .ref a_inputFingerprints, .ref a_inputOutputs, .ref a_inputSecrets, .ref a_inputLocks, .ref a_outputCounts, .ref a_outputLocks, .ref a_outputAmounts])), (a_inputCounts, .inl (cI, 41, .inl f_inputCounts)), (a_inputSlots, .inl (cI, 82, .inl f_inputSlots)), (a_inputFingerprints, .inl (cI, 82, .inl f_inputFingerprints)), (a_inputOutputs, .inl (cI, 82, .inl f_inputOutputs)), (a_inputSecrets, .inl (cI, 82, .inl f_inputSecrets)), (a_inputLocks, .inl (cI, 82, .inl f_inputLocks))] (fun (o : Int32 × (Nat → Int32) × (Nat → Int32) × (Nat → Int32) × (Nat → Int32) × (Nat → Int32) × (Nat → Int32)) => [(a_this, .inr (6, [.int v_made, .ref a_ids, .ref a_inputCounts, .ref a_inputSlots, .ref a_inputFingerprints, .ref a_inputOutputs, .ref a_inputSecrets, .ref a_inputLocks, .ref a_outputCounts, .ref a_outputLocks, .ref a_outputAmounts])), (a_inputCounts, .inl (cI, 41, .inl o.2.1)), (a_inputSlots, .inl (cI, 82, .inl o.2.2.1)), (a_inputFingerprints, .inl (cI, 82, .inl o.2.2.2.1)), (a_inputOutputs, .inl (cI, 82, .inl o.2.2.2.2.1)), (a_inputSecrets, .inl (cI, 82, .inl o.2.2.2.2.2.1)), (a_inputLocks, .inl (cI, 82, .inl o.2.2.2.2.2.2))]) (fun (o : Int32 × (Nat → Int32) × (Nat → Int32) × (Nat → Int32) × (Nat → Int32) × (Nat → Int32) × (Nat → Int32)) => (some (.int o.1))) o) 0 0 (mo_A [(a_this, .inr (6, [.int v_made, .ref a_ids, .ref a_inputCounts, .ref a_inputSlots, .ref a_inputFingerprints, .ref a_inputOutputs, .ref a_inputSecrets, .ref a_inputLocks, .ref a_outputCounts, .ref a_outputLocks, .ref a_outputAmounts])), (a_inputCounts, .inl (cI, 41, .inl f_inputCounts)), (a_inputSlots, .inl (cI, 82, .inl f_inputSlots)), (a_inputFingerprints, .inl (cI, 82, .inl f_inputFingerprints)), (a_inputOutputs, .inl (cI, 82, .inl f_inputOutputs)), (a_inputSecrets, .inl (cI, 82, .inl f_inputSecrets)), (a_inputLocks, .inl (cI, 82, .inl f_inputLocks))]) := by
  refine mo_start (by decide) (Nat.le_of_ble_eq_true rfl) ?_
  intro p e s m args below meth c hx hb hr hlocks hml hown hw hv ls hl Q hQ
  obtain ⟨hP, hK, hN, hD0⟩ := hv
  have hl : lv_has ls 6 [(0, .ref a_this), (1, .int x1), (2, .int x2), (3, .int x3), (4, .int x4)] := hl
  obtain ⟨A, hA2⟩ : ∃ A, A = mo_A [(a_this, .inr (6, [.int v_made, .ref a_ids, .ref a_inputCounts, .ref a_inputSlots, .ref a_inputFingerprints, .ref a_inputOutputs, .ref a_inputSecrets, .ref a_inputLocks, .ref a_outputCounts, .ref a_outputLocks, .ref a_outputAmounts])), (a_inputCounts, .inl (cI, 41, .inl f_inputCounts)), (a_inputSlots, .inl (cI, 82, .inl f_inputSlots)), (a_inputFingerprints, .inl (cI, 82, .inl f_inputFingerprints)), (a_inputOutputs, .inl (cI, 82, .inl f_inputOutputs)), (a_inputSecrets, .inl (cI, 82, .inl f_inputSecrets)), (a_inputLocks, .inl (cI, 82, .inl f_inputLocks))] := ⟨_, rfl⟩
  have hD : va_D A [(a_this, .inr (6, [.int v_made, .ref a_ids, .ref a_inputCounts, .ref a_inputSlots, .ref a_inputFingerprints, .ref a_inputOutputs, .ref a_inputSecrets, .ref a_inputLocks, .ref a_outputCounts, .ref a_outputLocks, .ref a_outputAmounts])), (a_inputCounts, .inl (cI, 41, .inl f_inputCounts)), (a_inputSlots, .inl (cI, 82, .inl f_inputSlots)), (a_inputFingerprints, .inl (cI, 82, .inl f_inputFingerprints)), (a_inputOutputs, .inl (cI, 82, .inl f_inputOutputs)), (a_inputSecrets, .inl (cI, 82, .inl f_inputSecrets)), (a_inputLocks, .inl (cI, 82, .inl f_inputLocks))] := hA2 ▸ mo_self hD0
  have hS : va_S A s.heap s.heap [] := va_S.rf
  unfold m_tr_putInput at h
  refine lv_aload_n (pc := 0) hx hb d_tr_putInput_0 rfl (lv_at hl 0 rfl) ?_
  refine gf_tr_15 (pc := 1) hx hb hw hN hown hK hP 0 rfl rfl d_tr_putInput_1 ?_
  refine lv_aload_n (pc := 4) hx hb d_tr_putInput_4 rfl (lv_at hl 0 rfl) ?_
  refine gf_tr_42 (pc := 5) hx hb hw hN hown hK hP 0 rfl rfl d_tr_putInput_5 ?_
  obtain ⟨v8, hi8, e8, h⟩ := mo_rI_e h
  refine mo_iald (pc := 8) hx hb hK hP 1 0 rfl rfl hi8 e8 d_tr_putInput_8 ?_
  refine lv_iconst (pc := 9) (v := 2) hx hb d_tr_putInput_9 (by decide) ?_
  refine lv_icmp_ne (pc := 10) (tgt := 15) hx hb d_tr_putInput_10 rfl (fun hc => ?_) (fun hc => ?_)
  · have h := mo_f hc h
    refine lv_aload_n (pc := 15) hx hb d_tr_putInput_15 rfl (lv_at hl 0 rfl) ?_
    refine gf_tr_42 (pc := 16) hx hb hw hN hown hK hP 0 rfl rfl d_tr_putInput_16 ?_
    refine lv_iconst (pc := 19) (v := 2) hx hb d_tr_putInput_19 (by decide) ?_
    refine lv_imul (pc := 20) hx hb d_tr_putInput_20 ?_
    refine lv_aload_n (pc := 21) hx hb d_tr_putInput_21 rfl (lv_at hl 0 rfl) ?_
    refine gf_tr_15 (pc := 22) hx hb hw hN hown hK hP 0 rfl rfl d_tr_putInput_22 ?_
    refine lv_aload_n (pc := 25) hx hb d_tr_putInput_25 rfl (lv_at hl 0 rfl) ?_
    refine gf_tr_42 (pc := 26) hx hb hw hN hown hK hP 0 rfl rfl d_tr_putInput_26 ?_
    obtain ⟨v29, hi29, e29, h⟩ := mo_rI_e h
    refine mo_iald (pc := 29) hx hb hK hP 1 0 rfl rfl hi29 e29 d_tr_putInput_29 ?_
    refine lv_iadd (pc := 30) hx hb d_tr_putInput_30 ?_
    refine lv_istore (pc := 31) (lv' := [(5, .int ((v_made * 2) + v29)), (0, .ref a_this), (1, .int x1), (2, .int x2), (3, .int x3), (4, .int x4)]) hx hb d_tr_putInput_31 hl (by decide) rfl (fun ls hl => ?_)
    refine lv_aload_n (pc := 33) hx hb d_tr_putInput_33 rfl (lv_at hl 1 rfl) ?_
    refine gf_tr_18 (pc := 34) hx hb hw hN hown hK hP 0 rfl rfl d_tr_putInput_34 ?_
    refine lv_iload (pc := 37) hx hb d_tr_putInput_37 (lv_at hl 0 rfl) ?_
    refine lv_iload_n (pc := 39) hx hb d_tr_putInput_39 rfl (lv_at hl 2 rfl) ?_
    obtain ⟨g40, hi40, e40, h⟩ := mo_wI_e h
    refine mo_iast (pc := 40) hx hb hK hP hD hS 2 0 rfl rfl hi40 e40 d_tr_putInput_40 (fun H locs hP hD hS => ?_)
    have hP : va_P D cl [(a_this, .inr (6, [.int v_made, .ref a_ids, .ref a_inputCounts, .ref a_inputSlots, .ref a_inputFingerprints, .ref a_inputOutputs, .ref a_inputSecrets, .ref a_inputLocks, .ref a_outputCounts, .ref a_outputLocks, .ref a_outputAmounts])), (a_inputCounts, .inl (cI, 41, .inl f_inputCounts)), (a_inputSlots, .inl (cI, 82, .inl g40)), (a_inputFingerprints, .inl (cI, 82, .inl f_inputFingerprints)), (a_inputOutputs, .inl (cI, 82, .inl f_inputOutputs)), (a_inputSecrets, .inl (cI, 82, .inl f_inputSecrets)), (a_inputLocks, .inl (cI, 82, .inl f_inputLocks))] H := hP
    have hD : va_D A [(a_this, .inr (6, [.int v_made, .ref a_ids, .ref a_inputCounts, .ref a_inputSlots, .ref a_inputFingerprints, .ref a_inputOutputs, .ref a_inputSecrets, .ref a_inputLocks, .ref a_outputCounts, .ref a_outputLocks, .ref a_outputAmounts])), (a_inputCounts, .inl (cI, 41, .inl f_inputCounts)), (a_inputSlots, .inl (cI, 82, .inl g40)), (a_inputFingerprints, .inl (cI, 82, .inl f_inputFingerprints)), (a_inputOutputs, .inl (cI, 82, .inl f_inputOutputs)), (a_inputSecrets, .inl (cI, 82, .inl f_inputSecrets)), (a_inputLocks, .inl (cI, 82, .inl f_inputLocks))] := hD
    refine lv_aload_n (pc := 41) hx hb d_tr_putInput_41 rfl (lv_at hl 1 rfl) ?_
    refine gf_tr_21 (pc := 42) hx hb hw hN hown hK hP 0 rfl rfl d_tr_putInput_42 ?_
    refine lv_iload (pc := 45) hx hb d_tr_putInput_45 (lv_at hl 0 rfl) ?_
    refine lv_iload_n (pc := 47) hx hb d_tr_putInput_47 rfl (lv_at hl 3 rfl) ?_
    obtain ⟨g48, hi48, e48, h⟩ := mo_wI_e h
    refine mo_iast (pc := 48) hx hb hK hP hD hS 3 0 rfl rfl hi48 e48 d_tr_putInput_48 (fun H locs hP hD hS => ?_)
    have hP : va_P D cl [(a_this, .inr (6, [.int v_made, .ref a_ids, .ref a_inputCounts, .ref a_inputSlots, .ref a_inputFingerprints, .ref a_inputOutputs, .ref a_inputSecrets, .ref a_inputLocks, .ref a_outputCounts, .ref a_outputLocks, .ref a_outputAmounts])), (a_inputCounts, .inl (cI, 41, .inl f_inputCounts)), (a_inputSlots, .inl (cI, 82, .inl g40)), (a_inputFingerprints, .inl (cI, 82, .inl g48)), (a_inputOutputs, .inl (cI, 82, .inl f_inputOutputs)), (a_inputSecrets, .inl (cI, 82, .inl f_inputSecrets)), (a_inputLocks, .inl (cI, 82, .inl f_inputLocks))] H := hP
    have hD : va_D A [(a_this, .inr (6, [.int v_made, .ref a_ids, .ref a_inputCounts, .ref a_inputSlots, .ref a_inputFingerprints, .ref a_inputOutputs, .ref a_inputSecrets, .ref a_inputLocks, .ref a_outputCounts, .ref a_outputLocks, .ref a_outputAmounts])), (a_inputCounts, .inl (cI, 41, .inl f_inputCounts)), (a_inputSlots, .inl (cI, 82, .inl g40)), (a_inputFingerprints, .inl (cI, 82, .inl g48)), (a_inputOutputs, .inl (cI, 82, .inl f_inputOutputs)), (a_inputSecrets, .inl (cI, 82, .inl f_inputSecrets)), (a_inputLocks, .inl (cI, 82, .inl f_inputLocks))] := hD
    refine lv_aload_n (pc := 49) hx hb d_tr_putInput_49 rfl (lv_at hl 1 rfl) ?_
    refine gf_tr_24 (pc := 50) hx hb hw hN hown hK hP 0 rfl rfl d_tr_putInput_50 ?_
    refine lv_iload (pc := 53) hx hb d_tr_putInput_53 (lv_at hl 0 rfl) ?_
    refine lv_iload_n (pc := 55) hx hb d_tr_putInput_55 rfl (lv_at hl 4 rfl) ?_
    obtain ⟨g56, hi56, e56, h⟩ := mo_wI_e h
    refine mo_iast (pc := 56) hx hb hK hP hD hS 4 0 rfl rfl hi56 e56 d_tr_putInput_56 (fun H locs hP hD hS => ?_)
    have hP : va_P D cl [(a_this, .inr (6, [.int v_made, .ref a_ids, .ref a_inputCounts, .ref a_inputSlots, .ref a_inputFingerprints, .ref a_inputOutputs, .ref a_inputSecrets, .ref a_inputLocks, .ref a_outputCounts, .ref a_outputLocks, .ref a_outputAmounts])), (a_inputCounts, .inl (cI, 41, .inl f_inputCounts)), (a_inputSlots, .inl (cI, 82, .inl g40)), (a_inputFingerprints, .inl (cI, 82, .inl g48)), (a_inputOutputs, .inl (cI, 82, .inl g56)), (a_inputSecrets, .inl (cI, 82, .inl f_inputSecrets)), (a_inputLocks, .inl (cI, 82, .inl f_inputLocks))] H := hP
    have hD : va_D A [(a_this, .inr (6, [.int v_made, .ref a_ids, .ref a_inputCounts, .ref a_inputSlots, .ref a_inputFingerprints, .ref a_inputOutputs, .ref a_inputSecrets, .ref a_inputLocks, .ref a_outputCounts, .ref a_outputLocks, .ref a_outputAmounts])), (a_inputCounts, .inl (cI, 41, .inl f_inputCounts)), (a_inputSlots, .inl (cI, 82, .inl g40)), (a_inputFingerprints, .inl (cI, 82, .inl g48)), (a_inputOutputs, .inl (cI, 82, .inl g56)), (a_inputSecrets, .inl (cI, 82, .inl f_inputSecrets)), (a_inputLocks, .inl (cI, 82, .inl f_inputLocks))] := hD
    refine lv_aload_n (pc := 57) hx hb d_tr_putInput_57 rfl (lv_at hl 1 rfl) ?_
    refine gf_tr_27 (pc := 58) hx hb hw hN hown hK hP 0 rfl rfl d_tr_putInput_58 ?_
    refine lv_iload (pc := 61) hx hb d_tr_putInput_61 (lv_at hl 0 rfl) ?_
    refine lv_iload (pc := 63) hx hb d_tr_putInput_63 (lv_at hl 5 rfl) ?_
    obtain ⟨g65, hi65, e65, h⟩ := mo_wI_e h
    refine mo_iast (pc := 65) hx hb hK hP hD hS 5 0 rfl rfl hi65 e65 d_tr_putInput_65 (fun H locs hP hD hS => ?_)
    have hP : va_P D cl [(a_this, .inr (6, [.int v_made, .ref a_ids, .ref a_inputCounts, .ref a_inputSlots, .ref a_inputFingerprints, .ref a_inputOutputs, .ref a_inputSecrets, .ref a_inputLocks, .ref a_outputCounts, .ref a_outputLocks, .ref a_outputAmounts])), (a_inputCounts, .inl (cI, 41, .inl f_inputCounts)), (a_inputSlots, .inl (cI, 82, .inl g40)), (a_inputFingerprints, .inl (cI, 82, .inl g48)), (a_inputOutputs, .inl (cI, 82, .inl g56)), (a_inputSecrets, .inl (cI, 82, .inl g65)), (a_inputLocks, .inl (cI, 82, .inl f_inputLocks))] H := hP
    have hD : va_D A [(a_this, .inr (6, [.int v_made, .ref a_ids, .ref a_inputCounts, .ref a_inputSlots, .ref a_inputFingerprints, .ref a_inputOutputs, .ref a_inputSecrets, .ref a_inputLocks, .ref a_outputCounts, .ref a_outputLocks, .ref a_outputAmounts])), (a_inputCounts, .inl (cI, 41, .inl f_inputCounts)), (a_inputSlots, .inl (cI, 82, .inl g40)), (a_inputFingerprints, .inl (cI, 82, .inl g48)), (a_inputOutputs, .inl (cI, 82, .inl g56)), (a_inputSecrets, .inl (cI, 82, .inl g65)), (a_inputLocks, .inl (cI, 82, .inl f_inputLocks))] := hD
    refine lv_aload_n (pc := 66) hx hb d_tr_putInput_66 rfl (lv_at hl 1 rfl) ?_
    refine gf_tr_30 (pc := 67) hx hb hw hN hown hK hP 0 rfl rfl d_tr_putInput_67 ?_
    refine lv_iload (pc := 70) hx hb d_tr_putInput_70 (lv_at hl 0 rfl) ?_
    refine lv_iload (pc := 72) hx hb d_tr_putInput_72 (lv_at hl 5 rfl) ?_
    obtain ⟨r74, hr74, h⟩ := mo_bd_e h
    refine mo_rSN (pc := 74) (As := [.int x4]) (rest := [.int ((v_made * 2) + v29), .ref a_inputLocks]) (st1 := [.int r74, .int ((v_made * 2) + v29), .ref a_inputLocks]) ⟨hx, hb, hml, hown, hw⟩ (c_bm_lockFor l D cI cL cZ x4 r74 hr74) (kSN_tr_46 hw hN ⟨by decide, by decide⟩) mo_P0 hK hN rfl hl.1 rfl rfl d_tr_putInput_74 rfl ?_
    obtain ⟨g77, hi77, e77, h⟩ := mo_wI_e h
    refine mo_iast (pc := 77) hx hb hK hP hD hS 6 0 rfl rfl hi77 e77 d_tr_putInput_77 (fun H locs hP hD hS => ?_)
    have hP : va_P D cl [(a_this, .inr (6, [.int v_made, .ref a_ids, .ref a_inputCounts, .ref a_inputSlots, .ref a_inputFingerprints, .ref a_inputOutputs, .ref a_inputSecrets, .ref a_inputLocks, .ref a_outputCounts, .ref a_outputLocks, .ref a_outputAmounts])), (a_inputCounts, .inl (cI, 41, .inl f_inputCounts)), (a_inputSlots, .inl (cI, 82, .inl g40)), (a_inputFingerprints, .inl (cI, 82, .inl g48)), (a_inputOutputs, .inl (cI, 82, .inl g56)), (a_inputSecrets, .inl (cI, 82, .inl g65)), (a_inputLocks, .inl (cI, 82, .inl g77))] H := hP
    have hD : va_D A [(a_this, .inr (6, [.int v_made, .ref a_ids, .ref a_inputCounts, .ref a_inputSlots, .ref a_inputFingerprints, .ref a_inputOutputs, .ref a_inputSecrets, .ref a_inputLocks, .ref a_outputCounts, .ref a_outputLocks, .ref a_outputAmounts])), (a_inputCounts, .inl (cI, 41, .inl f_inputCounts)), (a_inputSlots, .inl (cI, 82, .inl g40)), (a_inputFingerprints, .inl (cI, 82, .inl g48)), (a_inputOutputs, .inl (cI, 82, .inl g56)), (a_inputSecrets, .inl (cI, 82, .inl g65)), (a_inputLocks, .inl (cI, 82, .inl g77))] := hD
    refine lv_aload_n (pc := 78) hx hb d_tr_putInput_78 rfl (lv_at hl 1 rfl) ?_
    refine gf_tr_15 (pc := 79) hx hb hw hN hown hK hP 0 rfl rfl d_tr_putInput_79 ?_
    refine lv_aload_n (pc := 82) hx hb d_tr_putInput_82 rfl (lv_at hl 1 rfl) ?_
    refine gf_tr_42 (pc := 83) hx hb hw hN hown hK hP 0 rfl rfl d_tr_putInput_83 ?_
    refine lv_dup2_11 (pc := 86) hx hb d_tr_putInput_86 rfl rfl ?_
    obtain ⟨v87, hi87, e87, h⟩ := mo_rI_e h
    refine mo_iald (pc := 87) hx hb hK hP 1 0 rfl rfl hi87 e87 d_tr_putInput_87 ?_
    refine lv_iconst (pc := 88) (v := 1) hx hb d_tr_putInput_88 (by decide) ?_
    refine lv_iadd (pc := 89) hx hb d_tr_putInput_89 ?_
    obtain ⟨g90, hi90, e90, h⟩ := mo_wI_e h
    refine mo_iast (pc := 90) hx hb hK hP hD hS 1 0 rfl rfl hi90 e90 d_tr_putInput_90 (fun H locs hP hD hS => ?_)
    have hP : va_P D cl [(a_this, .inr (6, [.int v_made, .ref a_ids, .ref a_inputCounts, .ref a_inputSlots, .ref a_inputFingerprints, .ref a_inputOutputs, .ref a_inputSecrets, .ref a_inputLocks, .ref a_outputCounts, .ref a_outputLocks, .ref a_outputAmounts])), (a_inputCounts, .inl (cI, 41, .inl g90)), (a_inputSlots, .inl (cI, 82, .inl g40)), (a_inputFingerprints, .inl (cI, 82, .inl g48)), (a_inputOutputs, .inl (cI, 82, .inl g56)), (a_inputSecrets, .inl (cI, 82, .inl g65)), (a_inputLocks, .inl (cI, 82, .inl g77))] H := hP
    have hD : va_D A [(a_this, .inr (6, [.int v_made, .ref a_ids, .ref a_inputCounts, .ref a_inputSlots, .ref a_inputFingerprints, .ref a_inputOutputs, .ref a_inputSecrets, .ref a_inputLocks, .ref a_outputCounts, .ref a_outputLocks, .ref a_outputAmounts])), (a_inputCounts, .inl (cI, 41, .inl g90)), (a_inputSlots, .inl (cI, 82, .inl g40)), (a_inputFingerprints, .inl (cI, 82, .inl g48)), (a_inputOutputs, .inl (cI, 82, .inl g56)), (a_inputSecrets, .inl (cI, 82, .inl g65)), (a_inputLocks, .inl (cI, 82, .inl g77))] := hD
    refine lv_iconst (pc := 91) (v := 1) hx hb d_tr_putInput_91 (by decide) ?_
    exact mo_retZm (mo_nz (by decide)) hx hb hr hlocks hQ hA2 h hP hS d_tr_putInput_92 rfl
  · have h := mo_t hc h
    refine lv_iconst (pc := 13) (v := 0) hx hb d_tr_putInput_13 (by decide) ?_
    exact mo_retZm (mo_nz (by decide)) hx hb hr hlocks hQ hA2 h hP hS d_tr_putInput_14 rfl
set_option maxRecDepth 100000 in
set_option maxHeartbeats 4000000 in
theorem c_bm_input (l : Launch) (D : va_G) (cI cL cZ : ClassId) (a_this : Nat) (a_transactions : Nat) (a_blocks : Nat) (a_transactions_ids : Nat) (a_blocks_hashes : Nat) (a_transactions_inputCounts : Nat) (a_transactions_inputSlots : Nat) (a_transactions_inputFingerprints : Nat) (a_transactions_inputOutputs : Nat) (a_transactions_inputSecrets : Nat) (a_transactions_inputLocks : Nat) (a_plan : Nat) (a_templatePlan : Nat) (a_dag : Nat) (a_orphans : Nat) (a_ledger : Nat) (a_pooled : Nat) (a_ahead : Nat) (a_transactions_outputCounts : Nat) (a_transactions_outputLocks : Nat) (a_transactions_outputAmounts : Nat) (a_blocks_parentCounts : Nat) (a_blocks_parents : Nat) (a_blocks_includedCounts : Nat) (a_blocks_included : Nat) (a_blocks_locks : Nat) (v_transactions_made : Int32) (v_blocks_made : Int32) (f_transactions_ids : Nat → Int32) (f_blocks_hashes : Nat → Int32) (f_transactions_inputCounts : Nat → Int32) (f_transactions_inputSlots : Nat → Int32) (f_transactions_inputFingerprints : Nat → Int32) (f_transactions_inputOutputs : Nat → Int32) (f_transactions_inputSecrets : Nat → Int32) (f_transactions_inputLocks : Nat → Int32) (x1 : Int32) (x2 : Int32) (x3 : Int32) (o : Int32 × (Nat → Int32) × (Nat → Int32) × (Nat → Int32) × (Nat → Int32) × (Nat → Int32) × (Nat → Int32)) (h : m_bm_input v_transactions_made v_blocks_made f_transactions_ids f_blocks_hashes f_transactions_inputCounts f_transactions_inputSlots f_transactions_inputFingerprints f_transactions_inputOutputs f_transactions_inputSecrets f_transactions_inputLocks x1 x2 x3 = some o) : Met l y_bm_input (Cond.code y_bm_input b_bm_input 5 (some .boolean) :: WG) rm_bm_input (va_Pc [.ref a_this, .int x1, .int x2, .int x3] (mo_Pm D [(cI, .int), (cL, .long), (cZ, .boolean)] [(a_this, .inr (0, [.ref a_transactions, .ref a_blocks, .ref a_plan, .ref a_templatePlan, .ref a_dag, .ref a_orphans, .ref a_ledger, .ref a_pooled, .ref a_ahead])), (a_transactions, .inr (6, [.int v_transactions_made, .ref a_transactions_ids, .ref a_transactions_inputCounts, .ref a_transactions_inputSlots, .ref a_transactions_inputFingerprints, .ref a_transactions_inputOutputs, .ref a_transactions_inputSecrets, .ref a_transactions_inputLocks, .ref a_transactions_outputCounts, .ref a_transactions_outputLocks, .ref a_transactions_outputAmounts])), (a_blocks, .inr (2, [.int v_blocks_made, .ref a_blocks_parentCounts, .ref a_blocks_parents, .ref a_blocks_includedCounts, .ref a_blocks_included, .ref a_blocks_locks, .ref a_blocks_hashes])), (a_transactions_ids, .inl (cI, 41, .inl f_transactions_ids)), (a_blocks_hashes, .inl (cI, 60, .inl f_blocks_hashes)), (a_transactions_inputCounts, .inl (cI, 41, .inl f_transactions_inputCounts)), (a_transactions_inputSlots, .inl (cI, 82, .inl f_transactions_inputSlots)), (a_transactions_inputFingerprints, .inl (cI, 82, .inl f_transactions_inputFingerprints)), (a_transactions_inputOutputs, .inl (cI, 82, .inl f_transactions_inputOutputs)), (a_transactions_inputSecrets, .inl (cI, 82, .inl f_transactions_inputSecrets)), (a_transactions_inputLocks, .inl (cI, 82, .inl f_transactions_inputLocks))])) (mo_Qm D [(a_this, .inr (0, [.ref a_transactions, .ref a_blocks, .ref a_plan, .ref a_templatePlan, .ref a_dag, .ref a_orphans, .ref a_ledger, .ref a_pooled, .ref a_ahead])), (a_transactions, .inr (6, [.int v_transactions_made, .ref a_transactions_ids, .ref a_transactions_inputCounts, .ref a_transactions_inputSlots, .ref a_transactions_inputFingerprints, .ref a_transactions_inputOutputs, .ref a_transactions_inputSecrets, .ref a_transactions_inputLocks, .ref a_transactions_outputCounts, .ref a_transactions_outputLocks, .ref a_transactions_outputAmounts])), (a_blocks, .inr (2, [.int v_blocks_made, .ref a_blocks_parentCounts, .ref a_blocks_parents, .ref a_blocks_includedCounts, .ref a_blocks_included, .ref a_blocks_locks, .ref a_blocks_hashes])), (a_transactions_ids, .inl (cI, 41, .inl f_transactions_ids)), (a_blocks_hashes, .inl (cI, 60, .inl f_blocks_hashes)), (a_transactions_inputCounts, .inl (cI, 41, .inl f_transactions_inputCounts)), (a_transactions_inputSlots, .inl (cI, 82, .inl f_transactions_inputSlots)), (a_transactions_inputFingerprints, .inl (cI, 82, .inl f_transactions_inputFingerprints)), (a_transactions_inputOutputs, .inl (cI, 82, .inl f_transactions_inputOutputs)), (a_transactions_inputSecrets, .inl (cI, 82, .inl f_transactions_inputSecrets)), (a_transactions_inputLocks, .inl (cI, 82, .inl f_transactions_inputLocks))] (fun (o : Int32 × (Nat → Int32) × (Nat → Int32) × (Nat → Int32) × (Nat → Int32) × (Nat → Int32) × (Nat → Int32)) => [(a_this, .inr (0, [.ref a_transactions, .ref a_blocks, .ref a_plan, .ref a_templatePlan, .ref a_dag, .ref a_orphans, .ref a_ledger, .ref a_pooled, .ref a_ahead])), (a_transactions, .inr (6, [.int v_transactions_made, .ref a_transactions_ids, .ref a_transactions_inputCounts, .ref a_transactions_inputSlots, .ref a_transactions_inputFingerprints, .ref a_transactions_inputOutputs, .ref a_transactions_inputSecrets, .ref a_transactions_inputLocks, .ref a_transactions_outputCounts, .ref a_transactions_outputLocks, .ref a_transactions_outputAmounts])), (a_blocks, .inr (2, [.int v_blocks_made, .ref a_blocks_parentCounts, .ref a_blocks_parents, .ref a_blocks_includedCounts, .ref a_blocks_included, .ref a_blocks_locks, .ref a_blocks_hashes])), (a_transactions_ids, .inl (cI, 41, .inl f_transactions_ids)), (a_blocks_hashes, .inl (cI, 60, .inl f_blocks_hashes)), (a_transactions_inputCounts, .inl (cI, 41, .inl o.2.1)), (a_transactions_inputSlots, .inl (cI, 82, .inl o.2.2.1)), (a_transactions_inputFingerprints, .inl (cI, 82, .inl o.2.2.2.1)), (a_transactions_inputOutputs, .inl (cI, 82, .inl o.2.2.2.2.1)), (a_transactions_inputSecrets, .inl (cI, 82, .inl o.2.2.2.2.2.1)), (a_transactions_inputLocks, .inl (cI, 82, .inl o.2.2.2.2.2.2))]) (fun (o : Int32 × (Nat → Int32) × (Nat → Int32) × (Nat → Int32) × (Nat → Int32) × (Nat → Int32) × (Nat → Int32)) => (some (.int o.1))) o) 0 0 (mo_A [(a_this, .inr (0, [.ref a_transactions, .ref a_blocks, .ref a_plan, .ref a_templatePlan, .ref a_dag, .ref a_orphans, .ref a_ledger, .ref a_pooled, .ref a_ahead])), (a_transactions, .inr (6, [.int v_transactions_made, .ref a_transactions_ids, .ref a_transactions_inputCounts, .ref a_transactions_inputSlots, .ref a_transactions_inputFingerprints, .ref a_transactions_inputOutputs, .ref a_transactions_inputSecrets, .ref a_transactions_inputLocks, .ref a_transactions_outputCounts, .ref a_transactions_outputLocks, .ref a_transactions_outputAmounts])), (a_blocks, .inr (2, [.int v_blocks_made, .ref a_blocks_parentCounts, .ref a_blocks_parents, .ref a_blocks_includedCounts, .ref a_blocks_included, .ref a_blocks_locks, .ref a_blocks_hashes])), (a_transactions_ids, .inl (cI, 41, .inl f_transactions_ids)), (a_blocks_hashes, .inl (cI, 60, .inl f_blocks_hashes)), (a_transactions_inputCounts, .inl (cI, 41, .inl f_transactions_inputCounts)), (a_transactions_inputSlots, .inl (cI, 82, .inl f_transactions_inputSlots)), (a_transactions_inputFingerprints, .inl (cI, 82, .inl f_transactions_inputFingerprints)), (a_transactions_inputOutputs, .inl (cI, 82, .inl f_transactions_inputOutputs)), (a_transactions_inputSecrets, .inl (cI, 82, .inl f_transactions_inputSecrets)), (a_transactions_inputLocks, .inl (cI, 82, .inl f_transactions_inputLocks))]) := by
  refine mo_start (by decide) (Nat.le_of_ble_eq_true rfl) ?_
  intro p e s m args below meth c hx hb hr hlocks hml hown hw hv ls hl Q hQ
  obtain ⟨hP, hK, hN, hD0⟩ := hv
  have hl : lv_has ls 5 [(0, .ref a_this), (1, .int x1), (2, .int x2), (3, .int x3)] := hl
  obtain ⟨A, hA2⟩ : ∃ A, A = mo_A [(a_this, .inr (0, [.ref a_transactions, .ref a_blocks, .ref a_plan, .ref a_templatePlan, .ref a_dag, .ref a_orphans, .ref a_ledger, .ref a_pooled, .ref a_ahead])), (a_transactions, .inr (6, [.int v_transactions_made, .ref a_transactions_ids, .ref a_transactions_inputCounts, .ref a_transactions_inputSlots, .ref a_transactions_inputFingerprints, .ref a_transactions_inputOutputs, .ref a_transactions_inputSecrets, .ref a_transactions_inputLocks, .ref a_transactions_outputCounts, .ref a_transactions_outputLocks, .ref a_transactions_outputAmounts])), (a_blocks, .inr (2, [.int v_blocks_made, .ref a_blocks_parentCounts, .ref a_blocks_parents, .ref a_blocks_includedCounts, .ref a_blocks_included, .ref a_blocks_locks, .ref a_blocks_hashes])), (a_transactions_ids, .inl (cI, 41, .inl f_transactions_ids)), (a_blocks_hashes, .inl (cI, 60, .inl f_blocks_hashes)), (a_transactions_inputCounts, .inl (cI, 41, .inl f_transactions_inputCounts)), (a_transactions_inputSlots, .inl (cI, 82, .inl f_transactions_inputSlots)), (a_transactions_inputFingerprints, .inl (cI, 82, .inl f_transactions_inputFingerprints)), (a_transactions_inputOutputs, .inl (cI, 82, .inl f_transactions_inputOutputs)), (a_transactions_inputSecrets, .inl (cI, 82, .inl f_transactions_inputSecrets)), (a_transactions_inputLocks, .inl (cI, 82, .inl f_transactions_inputLocks))] := ⟨_, rfl⟩
  have hD : va_D A [(a_this, .inr (0, [.ref a_transactions, .ref a_blocks, .ref a_plan, .ref a_templatePlan, .ref a_dag, .ref a_orphans, .ref a_ledger, .ref a_pooled, .ref a_ahead])), (a_transactions, .inr (6, [.int v_transactions_made, .ref a_transactions_ids, .ref a_transactions_inputCounts, .ref a_transactions_inputSlots, .ref a_transactions_inputFingerprints, .ref a_transactions_inputOutputs, .ref a_transactions_inputSecrets, .ref a_transactions_inputLocks, .ref a_transactions_outputCounts, .ref a_transactions_outputLocks, .ref a_transactions_outputAmounts])), (a_blocks, .inr (2, [.int v_blocks_made, .ref a_blocks_parentCounts, .ref a_blocks_parents, .ref a_blocks_includedCounts, .ref a_blocks_included, .ref a_blocks_locks, .ref a_blocks_hashes])), (a_transactions_ids, .inl (cI, 41, .inl f_transactions_ids)), (a_blocks_hashes, .inl (cI, 60, .inl f_blocks_hashes)), (a_transactions_inputCounts, .inl (cI, 41, .inl f_transactions_inputCounts)), (a_transactions_inputSlots, .inl (cI, 82, .inl f_transactions_inputSlots)), (a_transactions_inputFingerprints, .inl (cI, 82, .inl f_transactions_inputFingerprints)), (a_transactions_inputOutputs, .inl (cI, 82, .inl f_transactions_inputOutputs)), (a_transactions_inputSecrets, .inl (cI, 82, .inl f_transactions_inputSecrets)), (a_transactions_inputLocks, .inl (cI, 82, .inl f_transactions_inputLocks))] := hA2 ▸ mo_self hD0
  have hS : va_S A s.heap s.heap [] := va_S.rf
  unfold m_bm_input at h
  refine lv_iload_n (pc := 0) hx hb d_bm_input_0 rfl (lv_at hl 1 rfl) ?_
  refine lv_iload_n (pc := 1) hx hb d_bm_input_1 rfl (lv_at hl 2 rfl) ?_
  obtain ⟨r2, hr2, h⟩ := mo_bd_e h
  refine mo_rS (pc := 2) (As := [.int x1, .int x2]) (rest := []) (st1 := [.int r2]) ⟨hx, hb, hml, hown, hw⟩ (c_bm_slotOf l D cI cL cZ x1 x2 r2 hr2) (kS_bm_72 hw ⟨by decide, by decide⟩) mo_P0 hK hN rfl hl.1 rfl rfl d_bm_input_2 rfl ?_
  refine lv_istore (pc := 5) (lv' := [(4, .int r2), (0, .ref a_this), (1, .int x1), (2, .int x2), (3, .int x3)]) hx hb d_bm_input_5 hl (by decide) rfl (fun ls hl => ?_)
  refine lv_iload (pc := 7) hx hb d_bm_input_7 (lv_at hl 0 rfl) ?_
  refine lv_iconst (pc := 9) (v := (-1)) hx hb d_bm_input_9 (by decide) ?_
  refine lv_icmp_eq (pc := 10) (tgt := 21) hx hb d_bm_input_10 rfl (fun hc => ?_) (fun hc => ?_)
  · have h := mo_t hc h
    refine lv_iconst (pc := 21) (v := 0) hx hb d_bm_input_21 (by decide) ?_
    exact mo_retZm (mo_nz (by decide)) hx hb hr hlocks hQ hA2 h hP hS d_bm_input_22 rfl
  · have h := mo_f hc h
    refine lv_aload_n (pc := 13) hx hb d_bm_input_13 rfl (lv_at hl 1 rfl) ?_
    refine lv_iload_n (pc := 14) hx hb d_bm_input_14 rfl (lv_at hl 2 rfl) ?_
    obtain ⟨r15, hr15, h⟩ := mo_bd_e h
    refine mo_rV (pc := 15) (As := [.int x1]) (rest := []) (st1 := [.int r15]) ⟨hx, hb, hml, hown, hw⟩ (c_bm_isSource l D cI cL cZ a_this a_transactions a_blocks a_plan a_templatePlan a_dag a_orphans a_ledger a_pooled a_ahead a_transactions_ids a_transactions_inputCounts a_transactions_inputSlots a_transactions_inputFingerprints a_transactions_inputOutputs a_transactions_inputSecrets a_transactions_inputLocks a_transactions_outputCounts a_transactions_outputLocks a_transactions_outputAmounts a_blocks_parentCounts a_blocks_parents a_blocks_includedCounts a_blocks_included a_blocks_locks a_blocks_hashes v_transactions_made v_blocks_made x1 r15 hr15) (kV_bm_76 hw ⟨by decide, by decide⟩) (hP.sub [0, 1, 2] rfl) hK hN rfl rfl rfl hl.1 rfl rfl d_bm_input_15 rfl ?_
    refine lv_if_ne (pc := 18) (tgt := 23) hx hb d_bm_input_18 rfl (fun hc => ?_) (fun hc => ?_)
    · have h := mo_f hc h
      refine lv_aload_n (pc := 23) hx hb d_bm_input_23 rfl (lv_at hl 1 rfl) ?_
      refine gf_bm_12 (pc := 24) hx hb hw hN hown hK hP 0 rfl rfl d_bm_input_24 ?_
      refine lv_iload (pc := 27) hx hb d_bm_input_27 (lv_at hl 0 rfl) ?_
      refine lv_aload_n (pc := 29) hx hb d_bm_input_29 rfl (lv_at hl 1 rfl) ?_
      refine lv_iload_n (pc := 30) hx hb d_bm_input_30 rfl (lv_at hl 2 rfl) ?_
      obtain ⟨r31, hr31, h⟩ := mo_bd_e h
      refine mo_rV (pc := 31) (As := [.int x1]) (rest := [.int r2, .ref a_transactions]) (st1 := [.int r31, .int r2, .ref a_transactions]) ⟨hx, hb, hml, hown, hw⟩ (c_bm_fingerprintOf l D cI cL cZ a_this a_transactions a_transactions_ids a_blocks a_blocks_hashes a_plan a_templatePlan a_dag a_orphans a_ledger a_pooled a_ahead a_transactions_inputCounts a_transactions_inputSlots a_transactions_inputFingerprints a_transactions_inputOutputs a_transactions_inputSecrets a_transactions_inputLocks a_transactions_outputCounts a_transactions_outputLocks a_transactions_outputAmounts a_blocks_parentCounts a_blocks_parents a_blocks_includedCounts a_blocks_included a_blocks_locks v_transactions_made v_blocks_made f_transactions_ids f_blocks_hashes x1 r31 hr31) (kV_bm_80 hw ⟨by decide, by decide⟩) (hP.sub [0, 1, 3, 2, 4] rfl) hK hN rfl rfl rfl hl.1 rfl rfl d_bm_input_31 rfl ?_
      refine lv_iload_n (pc := 34) hx hb d_bm_input_34 rfl (lv_at hl 3 rfl) ?_
      refine lv_iload_n (pc := 35) hx hb d_bm_input_35 rfl (lv_at hl 4 rfl) ?_
      obtain ⟨⟨r36, r36_0, r36_1, r36_2, r36_3, r36_4, r36_5⟩, hr36, h⟩ := mo_bd_e h
      try dsimp only at h
      refine mo_mV (pc := 36) (As := [.int r2, .int r31, .int x2, .int x3]) (rest := []) (st1 := [.int r36]) ⟨hx, hb, hml, hown, hw⟩ (c_tr_putInput l D cI cL cZ a_transactions a_transactions_inputCounts a_transactions_inputSlots a_transactions_inputFingerprints a_transactions_inputOutputs a_transactions_inputSecrets a_transactions_inputLocks a_transactions_ids a_transactions_outputCounts a_transactions_outputLocks a_transactions_outputAmounts v_transactions_made f_transactions_inputCounts f_transactions_inputSlots f_transactions_inputFingerprints f_transactions_inputOutputs f_transactions_inputSecrets f_transactions_inputLocks r2 r31 x2 x3 (r36, r36_0, r36_1, r36_2, r36_3, r36_4, r36_5) hr36) (kV_bm_84 hw ⟨by decide, by decide⟩) hP hD hS hK hN [1, 5, 6, 7, 8, 9, 10] [none, some 0, none, none, none, some 1, some 2, some 3, some 4, some 5, some 6] rfl rfl rfl rfl rfl rfl rfl hl.1 rfl rfl d_bm_input_36 rfl (fun H locs hP hD hS => ?_)
      have hP : va_P D cl [(a_this, .inr (0, [.ref a_transactions, .ref a_blocks, .ref a_plan, .ref a_templatePlan, .ref a_dag, .ref a_orphans, .ref a_ledger, .ref a_pooled, .ref a_ahead])), (a_transactions, .inr (6, [.int v_transactions_made, .ref a_transactions_ids, .ref a_transactions_inputCounts, .ref a_transactions_inputSlots, .ref a_transactions_inputFingerprints, .ref a_transactions_inputOutputs, .ref a_transactions_inputSecrets, .ref a_transactions_inputLocks, .ref a_transactions_outputCounts, .ref a_transactions_outputLocks, .ref a_transactions_outputAmounts])), (a_blocks, .inr (2, [.int v_blocks_made, .ref a_blocks_parentCounts, .ref a_blocks_parents, .ref a_blocks_includedCounts, .ref a_blocks_included, .ref a_blocks_locks, .ref a_blocks_hashes])), (a_transactions_ids, .inl (cI, 41, .inl f_transactions_ids)), (a_blocks_hashes, .inl (cI, 60, .inl f_blocks_hashes)), (a_transactions_inputCounts, .inl (cI, 41, .inl r36_0)), (a_transactions_inputSlots, .inl (cI, 82, .inl r36_1)), (a_transactions_inputFingerprints, .inl (cI, 82, .inl r36_2)), (a_transactions_inputOutputs, .inl (cI, 82, .inl r36_3)), (a_transactions_inputSecrets, .inl (cI, 82, .inl r36_4)), (a_transactions_inputLocks, .inl (cI, 82, .inl r36_5))] H := hP
      have hD : va_D A [(a_this, .inr (0, [.ref a_transactions, .ref a_blocks, .ref a_plan, .ref a_templatePlan, .ref a_dag, .ref a_orphans, .ref a_ledger, .ref a_pooled, .ref a_ahead])), (a_transactions, .inr (6, [.int v_transactions_made, .ref a_transactions_ids, .ref a_transactions_inputCounts, .ref a_transactions_inputSlots, .ref a_transactions_inputFingerprints, .ref a_transactions_inputOutputs, .ref a_transactions_inputSecrets, .ref a_transactions_inputLocks, .ref a_transactions_outputCounts, .ref a_transactions_outputLocks, .ref a_transactions_outputAmounts])), (a_blocks, .inr (2, [.int v_blocks_made, .ref a_blocks_parentCounts, .ref a_blocks_parents, .ref a_blocks_includedCounts, .ref a_blocks_included, .ref a_blocks_locks, .ref a_blocks_hashes])), (a_transactions_ids, .inl (cI, 41, .inl f_transactions_ids)), (a_blocks_hashes, .inl (cI, 60, .inl f_blocks_hashes)), (a_transactions_inputCounts, .inl (cI, 41, .inl r36_0)), (a_transactions_inputSlots, .inl (cI, 82, .inl r36_1)), (a_transactions_inputFingerprints, .inl (cI, 82, .inl r36_2)), (a_transactions_inputOutputs, .inl (cI, 82, .inl r36_3)), (a_transactions_inputSecrets, .inl (cI, 82, .inl r36_4)), (a_transactions_inputLocks, .inl (cI, 82, .inl r36_5))] := hD
      obtain ⟨hz, h⟩ := mo_bz_e h
      exact mo_retZm (mo_nz hz) hx hb hr hlocks hQ hA2 h hP hS d_bm_input_39 rfl
    · have h := mo_t hc h
      refine lv_iconst (pc := 21) (v := 0) hx hb d_bm_input_21 (by decide) ?_
      exact mo_retZm (mo_nz (by decide)) hx hb hr hlocks hQ hA2 h hP hS d_bm_input_22 rfl
set_option maxRecDepth 100000 in
set_option maxHeartbeats 4000000 in
theorem c_tr_putOutput (l : Launch) (D : va_G) (cI cL cZ : ClassId) (a_this : Nat) (a_outputCounts : Nat) (a_outputLocks : Nat) (a_outputAmounts : Nat) (a_ids : Nat) (a_inputCounts : Nat) (a_inputSlots : Nat) (a_inputFingerprints : Nat) (a_inputOutputs : Nat) (a_inputSecrets : Nat) (a_inputLocks : Nat) (v_made : Int32) (f_outputCounts : Nat → Int32) (f_outputLocks : Nat → Int32) (f_outputAmounts : Nat → Int32) (x1 : Int32) (x2 : Int32) (o : Int32 × (Nat → Int32) × (Nat → Int32) × (Nat → Int32)) (h : m_tr_putOutput v_made f_outputCounts f_outputLocks f_outputAmounts x1 x2 = some o) : Met l y_tr_putOutput (Cond.code y_tr_putOutput b_tr_putOutput 4 (some .boolean) :: WG) rm_tr_putOutput (va_Pc [.ref a_this, .int x1, .int x2] (mo_Pm D [(cI, .int), (cL, .long), (cZ, .boolean)] [(a_this, .inr (6, [.int v_made, .ref a_ids, .ref a_inputCounts, .ref a_inputSlots, .ref a_inputFingerprints, .ref a_inputOutputs, .ref a_inputSecrets, .ref a_inputLocks, .ref a_outputCounts, .ref a_outputLocks, .ref a_outputAmounts])), (a_outputCounts, .inl (cI, 41, .inl f_outputCounts)), (a_outputLocks, .inl (cI, 82, .inl f_outputLocks)), (a_outputAmounts, .inl (cI, 82, .inl f_outputAmounts))])) (mo_Qm D [(a_this, .inr (6, [.int v_made, .ref a_ids, .ref a_inputCounts, .ref a_inputSlots, .ref a_inputFingerprints, .ref a_inputOutputs, .ref a_inputSecrets, .ref a_inputLocks, .ref a_outputCounts, .ref a_outputLocks, .ref a_outputAmounts])), (a_outputCounts, .inl (cI, 41, .inl f_outputCounts)), (a_outputLocks, .inl (cI, 82, .inl f_outputLocks)), (a_outputAmounts, .inl (cI, 82, .inl f_outputAmounts))] (fun (o : Int32 × (Nat → Int32) × (Nat → Int32) × (Nat → Int32)) => [(a_this, .inr (6, [.int v_made, .ref a_ids, .ref a_inputCounts, .ref a_inputSlots, .ref a_inputFingerprints, .ref a_inputOutputs, .ref a_inputSecrets, .ref a_inputLocks, .ref a_outputCounts, .ref a_outputLocks, .ref a_outputAmounts])), (a_outputCounts, .inl (cI, 41, .inl o.2.1)), (a_outputLocks, .inl (cI, 82, .inl o.2.2.1)), (a_outputAmounts, .inl (cI, 82, .inl o.2.2.2))]) (fun (o : Int32 × (Nat → Int32) × (Nat → Int32) × (Nat → Int32)) => (some (.int o.1))) o) 0 0 (mo_A [(a_this, .inr (6, [.int v_made, .ref a_ids, .ref a_inputCounts, .ref a_inputSlots, .ref a_inputFingerprints, .ref a_inputOutputs, .ref a_inputSecrets, .ref a_inputLocks, .ref a_outputCounts, .ref a_outputLocks, .ref a_outputAmounts])), (a_outputCounts, .inl (cI, 41, .inl f_outputCounts)), (a_outputLocks, .inl (cI, 82, .inl f_outputLocks)), (a_outputAmounts, .inl (cI, 82, .inl f_outputAmounts))]) := by
  refine mo_start (by decide) (Nat.le_of_ble_eq_true rfl) ?_
  intro p e s m args below meth c hx hb hr hlocks hml hown hw hv ls hl Q hQ
  obtain ⟨hP, hK, hN, hD0⟩ := hv
  have hl : lv_has ls 4 [(0, .ref a_this), (1, .int x1), (2, .int x2)] := hl
  obtain ⟨A, hA2⟩ : ∃ A, A = mo_A [(a_this, .inr (6, [.int v_made, .ref a_ids, .ref a_inputCounts, .ref a_inputSlots, .ref a_inputFingerprints, .ref a_inputOutputs, .ref a_inputSecrets, .ref a_inputLocks, .ref a_outputCounts, .ref a_outputLocks, .ref a_outputAmounts])), (a_outputCounts, .inl (cI, 41, .inl f_outputCounts)), (a_outputLocks, .inl (cI, 82, .inl f_outputLocks)), (a_outputAmounts, .inl (cI, 82, .inl f_outputAmounts))] := ⟨_, rfl⟩
  have hD : va_D A [(a_this, .inr (6, [.int v_made, .ref a_ids, .ref a_inputCounts, .ref a_inputSlots, .ref a_inputFingerprints, .ref a_inputOutputs, .ref a_inputSecrets, .ref a_inputLocks, .ref a_outputCounts, .ref a_outputLocks, .ref a_outputAmounts])), (a_outputCounts, .inl (cI, 41, .inl f_outputCounts)), (a_outputLocks, .inl (cI, 82, .inl f_outputLocks)), (a_outputAmounts, .inl (cI, 82, .inl f_outputAmounts))] := hA2 ▸ mo_self hD0
  have hS : va_S A s.heap s.heap [] := va_S.rf
  unfold m_tr_putOutput at h
  refine lv_aload_n (pc := 0) hx hb d_tr_putOutput_0 rfl (lv_at hl 0 rfl) ?_
  refine gf_tr_33 (pc := 1) hx hb hw hN hown hK hP 0 rfl rfl d_tr_putOutput_1 ?_
  refine lv_aload_n (pc := 4) hx hb d_tr_putOutput_4 rfl (lv_at hl 0 rfl) ?_
  refine gf_tr_42 (pc := 5) hx hb hw hN hown hK hP 0 rfl rfl d_tr_putOutput_5 ?_
  obtain ⟨v8, hi8, e8, h⟩ := mo_rI_e h
  refine mo_iald (pc := 8) hx hb hK hP 1 0 rfl rfl hi8 e8 d_tr_putOutput_8 ?_
  refine lv_iconst (pc := 9) (v := 2) hx hb d_tr_putOutput_9 (by decide) ?_
  refine lv_icmp_ne (pc := 10) (tgt := 15) hx hb d_tr_putOutput_10 rfl (fun hc => ?_) (fun hc => ?_)
  · have h := mo_f hc h
    refine lv_aload_n (pc := 15) hx hb d_tr_putOutput_15 rfl (lv_at hl 0 rfl) ?_
    refine gf_tr_42 (pc := 16) hx hb hw hN hown hK hP 0 rfl rfl d_tr_putOutput_16 ?_
    refine lv_iconst (pc := 19) (v := 2) hx hb d_tr_putOutput_19 (by decide) ?_
    refine lv_imul (pc := 20) hx hb d_tr_putOutput_20 ?_
    refine lv_aload_n (pc := 21) hx hb d_tr_putOutput_21 rfl (lv_at hl 0 rfl) ?_
    refine gf_tr_33 (pc := 22) hx hb hw hN hown hK hP 0 rfl rfl d_tr_putOutput_22 ?_
    refine lv_aload_n (pc := 25) hx hb d_tr_putOutput_25 rfl (lv_at hl 0 rfl) ?_
    refine gf_tr_42 (pc := 26) hx hb hw hN hown hK hP 0 rfl rfl d_tr_putOutput_26 ?_
    obtain ⟨v29, hi29, e29, h⟩ := mo_rI_e h
    refine mo_iald (pc := 29) hx hb hK hP 1 0 rfl rfl hi29 e29 d_tr_putOutput_29 ?_
    refine lv_iadd (pc := 30) hx hb d_tr_putOutput_30 ?_
    refine lv_istore_n (pc := 31) (lv' := [(3, .int ((v_made * 2) + v29)), (0, .ref a_this), (1, .int x1), (2, .int x2)]) hx hb d_tr_putOutput_31 rfl hl (by decide) rfl (fun ls hl => ?_)
    refine lv_aload_n (pc := 32) hx hb d_tr_putOutput_32 rfl (lv_at hl 1 rfl) ?_
    refine gf_tr_36 (pc := 33) hx hb hw hN hown hK hP 0 rfl rfl d_tr_putOutput_33 ?_
    refine lv_iload_n (pc := 36) hx hb d_tr_putOutput_36 rfl (lv_at hl 0 rfl) ?_
    refine lv_iload_n (pc := 37) hx hb d_tr_putOutput_37 rfl (lv_at hl 2 rfl) ?_
    obtain ⟨g38, hi38, e38, h⟩ := mo_wI_e h
    refine mo_iast (pc := 38) hx hb hK hP hD hS 2 0 rfl rfl hi38 e38 d_tr_putOutput_38 (fun H locs hP hD hS => ?_)
    have hP : va_P D cl [(a_this, .inr (6, [.int v_made, .ref a_ids, .ref a_inputCounts, .ref a_inputSlots, .ref a_inputFingerprints, .ref a_inputOutputs, .ref a_inputSecrets, .ref a_inputLocks, .ref a_outputCounts, .ref a_outputLocks, .ref a_outputAmounts])), (a_outputCounts, .inl (cI, 41, .inl f_outputCounts)), (a_outputLocks, .inl (cI, 82, .inl g38)), (a_outputAmounts, .inl (cI, 82, .inl f_outputAmounts))] H := hP
    have hD : va_D A [(a_this, .inr (6, [.int v_made, .ref a_ids, .ref a_inputCounts, .ref a_inputSlots, .ref a_inputFingerprints, .ref a_inputOutputs, .ref a_inputSecrets, .ref a_inputLocks, .ref a_outputCounts, .ref a_outputLocks, .ref a_outputAmounts])), (a_outputCounts, .inl (cI, 41, .inl f_outputCounts)), (a_outputLocks, .inl (cI, 82, .inl g38)), (a_outputAmounts, .inl (cI, 82, .inl f_outputAmounts))] := hD
    refine lv_aload_n (pc := 39) hx hb d_tr_putOutput_39 rfl (lv_at hl 1 rfl) ?_
    refine gf_tr_39 (pc := 40) hx hb hw hN hown hK hP 0 rfl rfl d_tr_putOutput_40 ?_
    refine lv_iload_n (pc := 43) hx hb d_tr_putOutput_43 rfl (lv_at hl 0 rfl) ?_
    refine lv_iload_n (pc := 44) hx hb d_tr_putOutput_44 rfl (lv_at hl 3 rfl) ?_
    obtain ⟨g45, hi45, e45, h⟩ := mo_wI_e h
    refine mo_iast (pc := 45) hx hb hK hP hD hS 3 0 rfl rfl hi45 e45 d_tr_putOutput_45 (fun H locs hP hD hS => ?_)
    have hP : va_P D cl [(a_this, .inr (6, [.int v_made, .ref a_ids, .ref a_inputCounts, .ref a_inputSlots, .ref a_inputFingerprints, .ref a_inputOutputs, .ref a_inputSecrets, .ref a_inputLocks, .ref a_outputCounts, .ref a_outputLocks, .ref a_outputAmounts])), (a_outputCounts, .inl (cI, 41, .inl f_outputCounts)), (a_outputLocks, .inl (cI, 82, .inl g38)), (a_outputAmounts, .inl (cI, 82, .inl g45))] H := hP
    have hD : va_D A [(a_this, .inr (6, [.int v_made, .ref a_ids, .ref a_inputCounts, .ref a_inputSlots, .ref a_inputFingerprints, .ref a_inputOutputs, .ref a_inputSecrets, .ref a_inputLocks, .ref a_outputCounts, .ref a_outputLocks, .ref a_outputAmounts])), (a_outputCounts, .inl (cI, 41, .inl f_outputCounts)), (a_outputLocks, .inl (cI, 82, .inl g38)), (a_outputAmounts, .inl (cI, 82, .inl g45))] := hD
    refine lv_aload_n (pc := 46) hx hb d_tr_putOutput_46 rfl (lv_at hl 1 rfl) ?_
    refine gf_tr_33 (pc := 47) hx hb hw hN hown hK hP 0 rfl rfl d_tr_putOutput_47 ?_
    refine lv_aload_n (pc := 50) hx hb d_tr_putOutput_50 rfl (lv_at hl 1 rfl) ?_
    refine gf_tr_42 (pc := 51) hx hb hw hN hown hK hP 0 rfl rfl d_tr_putOutput_51 ?_
    refine lv_dup2_11 (pc := 54) hx hb d_tr_putOutput_54 rfl rfl ?_
    obtain ⟨v55, hi55, e55, h⟩ := mo_rI_e h
    refine mo_iald (pc := 55) hx hb hK hP 1 0 rfl rfl hi55 e55 d_tr_putOutput_55 ?_
    refine lv_iconst (pc := 56) (v := 1) hx hb d_tr_putOutput_56 (by decide) ?_
    refine lv_iadd (pc := 57) hx hb d_tr_putOutput_57 ?_
    obtain ⟨g58, hi58, e58, h⟩ := mo_wI_e h
    refine mo_iast (pc := 58) hx hb hK hP hD hS 1 0 rfl rfl hi58 e58 d_tr_putOutput_58 (fun H locs hP hD hS => ?_)
    have hP : va_P D cl [(a_this, .inr (6, [.int v_made, .ref a_ids, .ref a_inputCounts, .ref a_inputSlots, .ref a_inputFingerprints, .ref a_inputOutputs, .ref a_inputSecrets, .ref a_inputLocks, .ref a_outputCounts, .ref a_outputLocks, .ref a_outputAmounts])), (a_outputCounts, .inl (cI, 41, .inl g58)), (a_outputLocks, .inl (cI, 82, .inl g38)), (a_outputAmounts, .inl (cI, 82, .inl g45))] H := hP
    have hD : va_D A [(a_this, .inr (6, [.int v_made, .ref a_ids, .ref a_inputCounts, .ref a_inputSlots, .ref a_inputFingerprints, .ref a_inputOutputs, .ref a_inputSecrets, .ref a_inputLocks, .ref a_outputCounts, .ref a_outputLocks, .ref a_outputAmounts])), (a_outputCounts, .inl (cI, 41, .inl g58)), (a_outputLocks, .inl (cI, 82, .inl g38)), (a_outputAmounts, .inl (cI, 82, .inl g45))] := hD
    refine lv_iconst (pc := 59) (v := 1) hx hb d_tr_putOutput_59 (by decide) ?_
    exact mo_retZm (mo_nz (by decide)) hx hb hr hlocks hQ hA2 h hP hS d_tr_putOutput_60 rfl
  · have h := mo_t hc h
    refine lv_iconst (pc := 13) (v := 0) hx hb d_tr_putOutput_13 (by decide) ?_
    exact mo_retZm (mo_nz (by decide)) hx hb hr hlocks hQ hA2 h hP hS d_tr_putOutput_14 rfl
set_option maxRecDepth 100000 in
set_option maxHeartbeats 4000000 in
theorem c_bm_output (l : Launch) (D : va_G) (cI cL cZ : ClassId) (a_this : Nat) (a_transactions : Nat) (a_transactions_outputCounts : Nat) (a_transactions_outputLocks : Nat) (a_transactions_outputAmounts : Nat) (a_blocks : Nat) (a_plan : Nat) (a_templatePlan : Nat) (a_dag : Nat) (a_orphans : Nat) (a_ledger : Nat) (a_pooled : Nat) (a_ahead : Nat) (a_transactions_ids : Nat) (a_transactions_inputCounts : Nat) (a_transactions_inputSlots : Nat) (a_transactions_inputFingerprints : Nat) (a_transactions_inputOutputs : Nat) (a_transactions_inputSecrets : Nat) (a_transactions_inputLocks : Nat) (v_transactions_made : Int32) (f_transactions_outputCounts : Nat → Int32) (f_transactions_outputLocks : Nat → Int32) (f_transactions_outputAmounts : Nat → Int32) (x1 : Int32) (x2 : Int32) (o : Int32 × (Nat → Int32) × (Nat → Int32) × (Nat → Int32)) (h : m_bm_output v_transactions_made f_transactions_outputCounts f_transactions_outputLocks f_transactions_outputAmounts x1 x2 = some o) : Met l y_bm_output (Cond.code y_bm_output b_bm_output 3 (some .boolean) :: WG) rm_bm_output (va_Pc [.ref a_this, .int x1, .int x2] (mo_Pm D [(cI, .int), (cL, .long), (cZ, .boolean)] [(a_this, .inr (0, [.ref a_transactions, .ref a_blocks, .ref a_plan, .ref a_templatePlan, .ref a_dag, .ref a_orphans, .ref a_ledger, .ref a_pooled, .ref a_ahead])), (a_transactions, .inr (6, [.int v_transactions_made, .ref a_transactions_ids, .ref a_transactions_inputCounts, .ref a_transactions_inputSlots, .ref a_transactions_inputFingerprints, .ref a_transactions_inputOutputs, .ref a_transactions_inputSecrets, .ref a_transactions_inputLocks, .ref a_transactions_outputCounts, .ref a_transactions_outputLocks, .ref a_transactions_outputAmounts])), (a_transactions_outputCounts, .inl (cI, 41, .inl f_transactions_outputCounts)), (a_transactions_outputLocks, .inl (cI, 82, .inl f_transactions_outputLocks)), (a_transactions_outputAmounts, .inl (cI, 82, .inl f_transactions_outputAmounts))])) (mo_Qm D [(a_this, .inr (0, [.ref a_transactions, .ref a_blocks, .ref a_plan, .ref a_templatePlan, .ref a_dag, .ref a_orphans, .ref a_ledger, .ref a_pooled, .ref a_ahead])), (a_transactions, .inr (6, [.int v_transactions_made, .ref a_transactions_ids, .ref a_transactions_inputCounts, .ref a_transactions_inputSlots, .ref a_transactions_inputFingerprints, .ref a_transactions_inputOutputs, .ref a_transactions_inputSecrets, .ref a_transactions_inputLocks, .ref a_transactions_outputCounts, .ref a_transactions_outputLocks, .ref a_transactions_outputAmounts])), (a_transactions_outputCounts, .inl (cI, 41, .inl f_transactions_outputCounts)), (a_transactions_outputLocks, .inl (cI, 82, .inl f_transactions_outputLocks)), (a_transactions_outputAmounts, .inl (cI, 82, .inl f_transactions_outputAmounts))] (fun (o : Int32 × (Nat → Int32) × (Nat → Int32) × (Nat → Int32)) => [(a_this, .inr (0, [.ref a_transactions, .ref a_blocks, .ref a_plan, .ref a_templatePlan, .ref a_dag, .ref a_orphans, .ref a_ledger, .ref a_pooled, .ref a_ahead])), (a_transactions, .inr (6, [.int v_transactions_made, .ref a_transactions_ids, .ref a_transactions_inputCounts, .ref a_transactions_inputSlots, .ref a_transactions_inputFingerprints, .ref a_transactions_inputOutputs, .ref a_transactions_inputSecrets, .ref a_transactions_inputLocks, .ref a_transactions_outputCounts, .ref a_transactions_outputLocks, .ref a_transactions_outputAmounts])), (a_transactions_outputCounts, .inl (cI, 41, .inl o.2.1)), (a_transactions_outputLocks, .inl (cI, 82, .inl o.2.2.1)), (a_transactions_outputAmounts, .inl (cI, 82, .inl o.2.2.2))]) (fun (o : Int32 × (Nat → Int32) × (Nat → Int32) × (Nat → Int32)) => (some (.int o.1))) o) 0 0 (mo_A [(a_this, .inr (0, [.ref a_transactions, .ref a_blocks, .ref a_plan, .ref a_templatePlan, .ref a_dag, .ref a_orphans, .ref a_ledger, .ref a_pooled, .ref a_ahead])), (a_transactions, .inr (6, [.int v_transactions_made, .ref a_transactions_ids, .ref a_transactions_inputCounts, .ref a_transactions_inputSlots, .ref a_transactions_inputFingerprints, .ref a_transactions_inputOutputs, .ref a_transactions_inputSecrets, .ref a_transactions_inputLocks, .ref a_transactions_outputCounts, .ref a_transactions_outputLocks, .ref a_transactions_outputAmounts])), (a_transactions_outputCounts, .inl (cI, 41, .inl f_transactions_outputCounts)), (a_transactions_outputLocks, .inl (cI, 82, .inl f_transactions_outputLocks)), (a_transactions_outputAmounts, .inl (cI, 82, .inl f_transactions_outputAmounts))]) := by
  refine mo_start (by decide) (Nat.le_of_ble_eq_true rfl) ?_
  intro p e s m args below meth c hx hb hr hlocks hml hown hw hv ls hl Q hQ
  obtain ⟨hP, hK, hN, hD0⟩ := hv
  have hl : lv_has ls 3 [(0, .ref a_this), (1, .int x1), (2, .int x2)] := hl
  obtain ⟨A, hA2⟩ : ∃ A, A = mo_A [(a_this, .inr (0, [.ref a_transactions, .ref a_blocks, .ref a_plan, .ref a_templatePlan, .ref a_dag, .ref a_orphans, .ref a_ledger, .ref a_pooled, .ref a_ahead])), (a_transactions, .inr (6, [.int v_transactions_made, .ref a_transactions_ids, .ref a_transactions_inputCounts, .ref a_transactions_inputSlots, .ref a_transactions_inputFingerprints, .ref a_transactions_inputOutputs, .ref a_transactions_inputSecrets, .ref a_transactions_inputLocks, .ref a_transactions_outputCounts, .ref a_transactions_outputLocks, .ref a_transactions_outputAmounts])), (a_transactions_outputCounts, .inl (cI, 41, .inl f_transactions_outputCounts)), (a_transactions_outputLocks, .inl (cI, 82, .inl f_transactions_outputLocks)), (a_transactions_outputAmounts, .inl (cI, 82, .inl f_transactions_outputAmounts))] := ⟨_, rfl⟩
  have hD : va_D A [(a_this, .inr (0, [.ref a_transactions, .ref a_blocks, .ref a_plan, .ref a_templatePlan, .ref a_dag, .ref a_orphans, .ref a_ledger, .ref a_pooled, .ref a_ahead])), (a_transactions, .inr (6, [.int v_transactions_made, .ref a_transactions_ids, .ref a_transactions_inputCounts, .ref a_transactions_inputSlots, .ref a_transactions_inputFingerprints, .ref a_transactions_inputOutputs, .ref a_transactions_inputSecrets, .ref a_transactions_inputLocks, .ref a_transactions_outputCounts, .ref a_transactions_outputLocks, .ref a_transactions_outputAmounts])), (a_transactions_outputCounts, .inl (cI, 41, .inl f_transactions_outputCounts)), (a_transactions_outputLocks, .inl (cI, 82, .inl f_transactions_outputLocks)), (a_transactions_outputAmounts, .inl (cI, 82, .inl f_transactions_outputAmounts))] := hA2 ▸ mo_self hD0
  have hS : va_S A s.heap s.heap [] := va_S.rf
  unfold m_bm_output at h
  refine lv_iload_n (pc := 0) hx hb d_bm_output_0 rfl (lv_at hl 2 rfl) ?_
  refine lv_if_lt (pc := 1) (tgt := 11) hx hb d_bm_output_1 rfl (fun hc => ?_) (fun hc => ?_)
  · have h := mo_t hc h
    refine lv_iconst (pc := 11) (v := 0) hx hb d_bm_output_11 (by decide) ?_
    exact mo_retZm (mo_nz (by decide)) hx hb hr hlocks hQ hA2 h hP hS d_bm_output_12 rfl
  · have h := mo_f hc h
    refine lv_iload_n (pc := 4) hx hb d_bm_output_4 rfl (lv_at hl 2 rfl) ?_
    refine lv_sipush (pc := 5) (v := 1000) hx hb d_bm_output_5 (by decide) ?_
    refine lv_icmp_le (pc := 8) (tgt := 13) hx hb d_bm_output_8 rfl (fun hc => ?_) (fun hc => ?_)
    · have h := mo_t hc h
      refine lv_aload_n (pc := 13) hx hb d_bm_output_13 rfl (lv_at hl 0 rfl) ?_
      refine gf_bm_12 (pc := 14) hx hb hw hN hown hK hP 0 rfl rfl d_bm_output_14 ?_
      refine lv_iload_n (pc := 17) hx hb d_bm_output_17 rfl (lv_at hl 1 rfl) ?_
      obtain ⟨r18, hr18, h⟩ := mo_bd_e h
      refine mo_rS (pc := 18) (As := [.int x1]) (rest := [.ref a_transactions]) (st1 := [.int r18, .ref a_transactions]) ⟨hx, hb, hml, hown, hw⟩ (c_bm_lockFor l D cI cL cZ x1 r18 hr18) (kS_bm_88 hw ⟨by decide, by decide⟩) mo_P0 hK hN rfl hl.1 rfl rfl d_bm_output_18 rfl ?_
      refine lv_iload_n (pc := 21) hx hb d_bm_output_21 rfl (lv_at hl 2 rfl) ?_
      obtain ⟨⟨r22, r22_0, r22_1, r22_2⟩, hr22, h⟩ := mo_bd_e h
      try dsimp only at h
      refine mo_mV (pc := 22) (As := [.int r18, .int x2]) (rest := []) (st1 := [.int r22]) ⟨hx, hb, hml, hown, hw⟩ (c_tr_putOutput l D cI cL cZ a_transactions a_transactions_outputCounts a_transactions_outputLocks a_transactions_outputAmounts a_transactions_ids a_transactions_inputCounts a_transactions_inputSlots a_transactions_inputFingerprints a_transactions_inputOutputs a_transactions_inputSecrets a_transactions_inputLocks v_transactions_made f_transactions_outputCounts f_transactions_outputLocks f_transactions_outputAmounts r18 x2 (r22, r22_0, r22_1, r22_2) hr22) (kV_bm_91 hw ⟨by decide, by decide⟩) hP hD hS hK hN [1, 2, 3, 4] [none, some 0, some 1, some 2, some 3] rfl rfl rfl rfl rfl rfl rfl hl.1 rfl rfl d_bm_output_22 rfl (fun H locs hP hD hS => ?_)
      have hP : va_P D cl [(a_this, .inr (0, [.ref a_transactions, .ref a_blocks, .ref a_plan, .ref a_templatePlan, .ref a_dag, .ref a_orphans, .ref a_ledger, .ref a_pooled, .ref a_ahead])), (a_transactions, .inr (6, [.int v_transactions_made, .ref a_transactions_ids, .ref a_transactions_inputCounts, .ref a_transactions_inputSlots, .ref a_transactions_inputFingerprints, .ref a_transactions_inputOutputs, .ref a_transactions_inputSecrets, .ref a_transactions_inputLocks, .ref a_transactions_outputCounts, .ref a_transactions_outputLocks, .ref a_transactions_outputAmounts])), (a_transactions_outputCounts, .inl (cI, 41, .inl r22_0)), (a_transactions_outputLocks, .inl (cI, 82, .inl r22_1)), (a_transactions_outputAmounts, .inl (cI, 82, .inl r22_2))] H := hP
      have hD : va_D A [(a_this, .inr (0, [.ref a_transactions, .ref a_blocks, .ref a_plan, .ref a_templatePlan, .ref a_dag, .ref a_orphans, .ref a_ledger, .ref a_pooled, .ref a_ahead])), (a_transactions, .inr (6, [.int v_transactions_made, .ref a_transactions_ids, .ref a_transactions_inputCounts, .ref a_transactions_inputSlots, .ref a_transactions_inputFingerprints, .ref a_transactions_inputOutputs, .ref a_transactions_inputSecrets, .ref a_transactions_inputLocks, .ref a_transactions_outputCounts, .ref a_transactions_outputLocks, .ref a_transactions_outputAmounts])), (a_transactions_outputCounts, .inl (cI, 41, .inl r22_0)), (a_transactions_outputLocks, .inl (cI, 82, .inl r22_1)), (a_transactions_outputAmounts, .inl (cI, 82, .inl r22_2))] := hD
      obtain ⟨hz, h⟩ := mo_bz_e h
      exact mo_retZm (mo_nz hz) hx hb hr hlocks hQ hA2 h hP hS d_bm_output_25 rfl
    · have h := mo_f hc h
      refine lv_iconst (pc := 11) (v := 0) hx hb d_bm_output_11 (by decide) ?_
      exact mo_retZm (mo_nz (by decide)) hx hb hr hlocks hQ hA2 h hP hS d_bm_output_12 rfl
set_option maxRecDepth 100000 in
set_option maxHeartbeats 4000000 in
theorem c_tr_draftId (l : Launch) (D : va_G) (cI cL cZ : ClassId) (a_this : Nat) (a_inputCounts : Nat) (a_inputFingerprints : Nat) (a_inputOutputs : Nat) (a_inputSecrets : Nat) (a_outputCounts : Nat) (a_outputLocks : Nat) (a_outputAmounts : Nat) (a_ids : Nat) (a_inputSlots : Nat) (a_inputLocks : Nat) (v_made : Int32) (f_inputCounts : Nat → Int32) (f_inputFingerprints : Nat → Int32) (f_inputOutputs : Nat → Int32) (f_inputSecrets : Nat → Int32) (f_outputCounts : Nat → Int32) (f_outputLocks : Nat → Int32) (f_outputAmounts : Nat → Int32) (o : Int32) (h : m_tr_draftId v_made f_inputCounts f_inputFingerprints f_inputOutputs f_inputSecrets f_outputCounts f_outputLocks f_outputAmounts = some o) : Met l y_tr_draftId (Cond.code y_tr_draftId b_tr_draftId 5 (some .int) :: WG) rm_tr_draftId (va_Pc [.ref a_this] (mo_Pr D [(cI, .int), (cL, .long), (cZ, .boolean)] [(a_this, .inr (6, [.int v_made, .ref a_ids, .ref a_inputCounts, .ref a_inputSlots, .ref a_inputFingerprints, .ref a_inputOutputs, .ref a_inputSecrets, .ref a_inputLocks, .ref a_outputCounts, .ref a_outputLocks, .ref a_outputAmounts])), (a_inputCounts, .inl (cI, 41, .inl f_inputCounts)), (a_inputFingerprints, .inl (cI, 82, .inl f_inputFingerprints)), (a_inputOutputs, .inl (cI, 82, .inl f_inputOutputs)), (a_inputSecrets, .inl (cI, 82, .inl f_inputSecrets)), (a_outputCounts, .inl (cI, 41, .inl f_outputCounts)), (a_outputLocks, .inl (cI, 82, .inl f_outputLocks)), (a_outputAmounts, .inl (cI, 82, .inl f_outputAmounts))])) (mo_Qr (some (.int o))) 0 0 (fun _ => False) := by
  refine mo_start (by decide) (Nat.le_of_ble_eq_true rfl) ?_
  intro p e s m args below meth c hx hb hr hlocks hml hown hw hv ls hl Q hQ
  obtain ⟨hP, hK, hN⟩ := hv
  have hl : lv_has ls 5 [(0, .ref a_this)] := hl
  unfold m_tr_draftId at h
  refine lv_bipush (pc := 0) (v := 11) hx hb d_tr_draftId_0 (by decide) ?_
  refine lv_istore_n (pc := 2) (lv' := [(1, .int 11), (0, .ref a_this)]) hx hb d_tr_draftId_2 rfl hl (by decide) rfl (fun ls hl => ?_)
  refine lv_aload_n (pc := 3) hx hb d_tr_draftId_3 rfl (lv_at hl 1 rfl) ?_
  refine gf_tr_42 (pc := 4) hx hb hw hN hown hK hP 0 rfl rfl d_tr_draftId_4 ?_
  refine lv_iconst (pc := 7) (v := 2) hx hb d_tr_draftId_7 (by decide) ?_
  refine lv_imul (pc := 8) hx hb d_tr_draftId_8 ?_
  refine lv_istore_n (pc := 9) (lv' := [(2, .int (v_made * 2)), (1, .int 11), (0, .ref a_this)]) hx hb d_tr_draftId_9 rfl hl (by decide) rfl (fun ls hl => ?_)
  refine lv_iload_n (pc := 10) hx hb d_tr_draftId_10 rfl (lv_at hl 0 rfl) ?_
  refine lv_istore_n (pc := 11) (lv' := [(3, .int (v_made * 2)), (2, .int (v_made * 2)), (1, .int 11), (0, .ref a_this)]) hx hb d_tr_draftId_11 rfl hl (by decide) rfl (fun ls hl => ?_)
  obtain ⟨w12, K12, eK12, hy12, hr12⟩ := mo_bd_k h
  have E12 : ∀ (y12_1 : Int32) (ls : Array Slot) (hl : lv_has ls 5 [(0, .ref a_this), (1, .int y12_1)]) (h : K12 y12_1 = some o), W p l e rm_tr_draftId s m args below meth c s.heap [] 0 0 Q (F0 m 62 ls []) := by
    intro y12_1 ls hl h
    have h := mo_a1 eK12 h
    try dsimp only at h
    refine lv_aload_n (pc := 62) hx hb d_tr_draftId_62 rfl (lv_at hl 0 rfl) ?_
    refine gf_tr_42 (pc := 63) hx hb hw hN hown hK hP 0 rfl rfl d_tr_draftId_63 ?_
    refine lv_iconst (pc := 66) (v := 2) hx hb d_tr_draftId_66 (by decide) ?_
    refine lv_imul (pc := 67) hx hb d_tr_draftId_67 ?_
    refine lv_istore_n (pc := 68) (lv' := [(3, .int (v_made * 2)), (0, .ref a_this), (1, .int y12_1)]) hx hb d_tr_draftId_68 rfl hl (by decide) rfl (fun ls hl => ?_)
    refine lv_iload_n (pc := 69) hx hb d_tr_draftId_69 rfl (lv_at hl 0 rfl) ?_
    refine lv_istore (pc := 70) (lv' := [(4, .int (v_made * 2)), (3, .int (v_made * 2)), (0, .ref a_this), (1, .int y12_1)]) hx hb d_tr_draftId_70 hl (by decide) rfl (fun ls hl => ?_)
    obtain ⟨w72, K72, eK72, hy72, hr72⟩ := mo_bd_k h
    have E72 : ∀ (y72_1 : Int32) (ls : Array Slot) (hl : lv_has ls 5 [(1, .int y72_1)]) (h : K72 y72_1 = some o), W p l e rm_tr_draftId s m args below meth c s.heap [] 0 0 Q (F0 m 116 ls []) := by
      intro y72_1 ls hl h
      have h := mo_a1 eK72 h
      try dsimp only at h
      refine lv_iload_n (pc := 116) hx hb d_tr_draftId_116 rfl (lv_at hl 0 rfl) ?_
      exact mo_retIr hx hb hr hlocks hQ h d_tr_draftId_117
    exact mo_lp_i (step := (m_tr_draftId_L72 v_made f_outputCounts f_outputLocks f_outputAmounts)) (o := w72) (fun (x : Int32 × Int32) => match x with | (z72_1, z72_4) => ∀ (ls : Array Slot) (hl : lv_has ls 5 [(0, .ref a_this), (1, .int z72_1), (3, .int (v_made * 2)), (4, .int z72_4)]), W p l e rm_tr_draftId s m args below meth c s.heap [] 0 0 Q (F0 m 72 ls [])) (by
        rintro bk72 hb72 ⟨z72_1, z72_4⟩ h ls hl
        unfold m_tr_draftId_L72 at h
        try dsimp only at h
        refine lv_iload (pc := 72) hx hb d_tr_draftId_72 (lv_at hl 3 rfl) ?_
        refine lv_iload_n (pc := 74) hx hb d_tr_draftId_74 rfl (lv_at hl 2 rfl) ?_
        refine lv_aload_n (pc := 75) hx hb d_tr_draftId_75 rfl (lv_at hl 0 rfl) ?_
        refine gf_tr_33 (pc := 76) hx hb hw hN hown hK hP 0 rfl rfl d_tr_draftId_76 ?_
        refine lv_aload_n (pc := 79) hx hb d_tr_draftId_79 rfl (lv_at hl 0 rfl) ?_
        refine gf_tr_42 (pc := 80) hx hb hw hN hown hK hP 0 rfl rfl d_tr_draftId_80 ?_
        obtain ⟨v83, hi83, e83, h⟩ := mo_rI_e h
        refine mo_iald (pc := 83) hx hb hK hP 5 0 rfl rfl hi83 e83 d_tr_draftId_83 ?_
        refine lv_iadd (pc := 84) hx hb d_tr_draftId_84 ?_
        refine lv_icmp_ge (pc := 85) (tgt := 116) hx hb d_tr_draftId_85 rfl (fun hc => ?_) (fun hc => ?_)
        · have h := mo_t hc h
          exact E72 z72_1 _ (lv_sub hl [1] rfl) (by rw [Option.some.inj h]; exact hr72)
        · have h := mo_f hc h
          refine lv_iload_n (pc := 88) hx hb d_tr_draftId_88 rfl (lv_at hl 1 rfl) ?_
          refine lv_aload_n (pc := 89) hx hb d_tr_draftId_89 rfl (lv_at hl 0 rfl) ?_
          refine gf_tr_36 (pc := 90) hx hb hw hN hown hK hP 0 rfl rfl d_tr_draftId_90 ?_
          refine lv_iload (pc := 93) hx hb d_tr_draftId_93 (lv_at hl 3 rfl) ?_
          obtain ⟨v95, hi95, e95, h⟩ := mo_rI_e h
          refine mo_iald (pc := 95) hx hb hK hP 6 0 rfl rfl hi95 e95 d_tr_draftId_95 ?_
          obtain ⟨r96, hr96, h⟩ := mo_bd_e h
          refine mo_rSN (pc := 96) (As := [.int z72_1, .int v95]) (rest := []) (st1 := [.int r96]) ⟨hx, hb, hml, hown, hw⟩ (c_bm_mix l D cI cL cZ z72_1 v95 r96 hr96) (kSN_tr_54 hw hN ⟨by decide, by decide⟩) mo_P0 hK hN rfl hl.1 rfl rfl d_tr_draftId_96 rfl ?_
          refine lv_aload_n (pc := 99) hx hb d_tr_draftId_99 rfl (lv_at hl 0 rfl) ?_
          refine gf_tr_39 (pc := 100) hx hb hw hN hown hK hP 0 rfl rfl d_tr_draftId_100 ?_
          refine lv_iload (pc := 103) hx hb d_tr_draftId_103 (lv_at hl 3 rfl) ?_
          obtain ⟨v105, hi105, e105, h⟩ := mo_rI_e h
          refine mo_iald (pc := 105) hx hb hK hP 7 0 rfl rfl hi105 e105 d_tr_draftId_105 ?_
          obtain ⟨r106, hr106, h⟩ := mo_bd_e h
          refine mo_rSN (pc := 106) (As := [.int r96, .int v105]) (rest := []) (st1 := [.int r106]) ⟨hx, hb, hml, hown, hw⟩ (c_bm_mix l D cI cL cZ r96 v105 r106 hr106) (kSN_tr_54 hw hN ⟨by decide, by decide⟩) mo_P0 hK hN rfl hl.1 rfl rfl d_tr_draftId_106 rfl ?_
          refine lv_istore_n (pc := 109) (lv' := [(1, .int r106), (0, .ref a_this), (3, .int (v_made * 2)), (4, .int z72_4)]) hx hb d_tr_draftId_109 rfl hl (by decide) rfl (fun ls hl => ?_)
          refine lv_iinc (pc := 110) (k := 3) (v := z72_4 + 1) (lv' := [(4, .int (z72_4 + 1)), (1, .int r106), (0, .ref a_this), (3, .int (v_made * 2))]) hx hb d_tr_draftId_110 hl rfl (mo_inc1 _) (by decide) rfl (fun ls hl => ?_)
          refine lv_goto (pc := 113) (tgt := 72) hx hb d_tr_draftId_113 rfl ?_
          exact hb72 (r106, z72_4 + 1) h _ (lv_sub hl [2, 1, 3, 0] rfl)
      ) _ _ hy72 _ (lv_sub hl [2, 3, 1, 0] rfl)
  exact mo_lp_i (step := (m_tr_draftId_L12 v_made f_inputCounts f_inputFingerprints f_inputOutputs f_inputSecrets)) (o := w12) (fun (x : Int32 × Int32) => match x with | (z12_1, z12_3) => ∀ (ls : Array Slot) (hl : lv_has ls 5 [(0, .ref a_this), (1, .int z12_1), (2, .int (v_made * 2)), (3, .int z12_3)]), W p l e rm_tr_draftId s m args below meth c s.heap [] 0 0 Q (F0 m 12 ls [])) (by
      rintro bk12 hb12 ⟨z12_1, z12_3⟩ h ls hl
      unfold m_tr_draftId_L12 at h
      try dsimp only at h
      refine lv_iload_n (pc := 12) hx hb d_tr_draftId_12 rfl (lv_at hl 3 rfl) ?_
      refine lv_iload_n (pc := 13) hx hb d_tr_draftId_13 rfl (lv_at hl 2 rfl) ?_
      refine lv_aload_n (pc := 14) hx hb d_tr_draftId_14 rfl (lv_at hl 0 rfl) ?_
      refine gf_tr_15 (pc := 15) hx hb hw hN hown hK hP 0 rfl rfl d_tr_draftId_15 ?_
      refine lv_aload_n (pc := 18) hx hb d_tr_draftId_18 rfl (lv_at hl 0 rfl) ?_
      refine gf_tr_42 (pc := 19) hx hb hw hN hown hK hP 0 rfl rfl d_tr_draftId_19 ?_
      obtain ⟨v22, hi22, e22, h⟩ := mo_rI_e h
      refine mo_iald (pc := 22) hx hb hK hP 1 0 rfl rfl hi22 e22 d_tr_draftId_22 ?_
      refine lv_iadd (pc := 23) hx hb d_tr_draftId_23 ?_
      refine lv_icmp_ge (pc := 24) (tgt := 62) hx hb d_tr_draftId_24 rfl (fun hc => ?_) (fun hc => ?_)
      · have h := mo_t hc h
        exact E12 z12_1 _ (lv_sub hl [0, 1] rfl) (by rw [Option.some.inj h]; exact hr12)
      · have h := mo_f hc h
        refine lv_iload_n (pc := 27) hx hb d_tr_draftId_27 rfl (lv_at hl 1 rfl) ?_
        refine lv_aload_n (pc := 28) hx hb d_tr_draftId_28 rfl (lv_at hl 0 rfl) ?_
        refine gf_tr_21 (pc := 29) hx hb hw hN hown hK hP 0 rfl rfl d_tr_draftId_29 ?_
        refine lv_iload_n (pc := 32) hx hb d_tr_draftId_32 rfl (lv_at hl 3 rfl) ?_
        obtain ⟨v33, hi33, e33, h⟩ := mo_rI_e h
        refine mo_iald (pc := 33) hx hb hK hP 2 0 rfl rfl hi33 e33 d_tr_draftId_33 ?_
        obtain ⟨r34, hr34, h⟩ := mo_bd_e h
        refine mo_rSN (pc := 34) (As := [.int z12_1, .int v33]) (rest := []) (st1 := [.int r34]) ⟨hx, hb, hml, hown, hw⟩ (c_bm_mix l D cI cL cZ z12_1 v33 r34 hr34) (kSN_tr_54 hw hN ⟨by decide, by decide⟩) mo_P0 hK hN rfl hl.1 rfl rfl d_tr_draftId_34 rfl ?_
        refine lv_aload_n (pc := 37) hx hb d_tr_draftId_37 rfl (lv_at hl 0 rfl) ?_
        refine gf_tr_24 (pc := 38) hx hb hw hN hown hK hP 0 rfl rfl d_tr_draftId_38 ?_
        refine lv_iload_n (pc := 41) hx hb d_tr_draftId_41 rfl (lv_at hl 3 rfl) ?_
        obtain ⟨v42, hi42, e42, h⟩ := mo_rI_e h
        refine mo_iald (pc := 42) hx hb hK hP 3 0 rfl rfl hi42 e42 d_tr_draftId_42 ?_
        obtain ⟨r43, hr43, h⟩ := mo_bd_e h
        refine mo_rSN (pc := 43) (As := [.int r34, .int v42]) (rest := []) (st1 := [.int r43]) ⟨hx, hb, hml, hown, hw⟩ (c_bm_mix l D cI cL cZ r34 v42 r43 hr43) (kSN_tr_54 hw hN ⟨by decide, by decide⟩) mo_P0 hK hN rfl hl.1 rfl rfl d_tr_draftId_43 rfl ?_
        refine lv_aload_n (pc := 46) hx hb d_tr_draftId_46 rfl (lv_at hl 0 rfl) ?_
        refine gf_tr_27 (pc := 47) hx hb hw hN hown hK hP 0 rfl rfl d_tr_draftId_47 ?_
        refine lv_iload_n (pc := 50) hx hb d_tr_draftId_50 rfl (lv_at hl 3 rfl) ?_
        obtain ⟨v51, hi51, e51, h⟩ := mo_rI_e h
        refine mo_iald (pc := 51) hx hb hK hP 4 0 rfl rfl hi51 e51 d_tr_draftId_51 ?_
        obtain ⟨r52, hr52, h⟩ := mo_bd_e h
        refine mo_rSN (pc := 52) (As := [.int r43, .int v51]) (rest := []) (st1 := [.int r52]) ⟨hx, hb, hml, hown, hw⟩ (c_bm_mix l D cI cL cZ r43 v51 r52 hr52) (kSN_tr_54 hw hN ⟨by decide, by decide⟩) mo_P0 hK hN rfl hl.1 rfl rfl d_tr_draftId_52 rfl ?_
        refine lv_istore_n (pc := 55) (lv' := [(1, .int r52), (0, .ref a_this), (2, .int (v_made * 2)), (3, .int z12_3)]) hx hb d_tr_draftId_55 rfl hl (by decide) rfl (fun ls hl => ?_)
        refine lv_iinc (pc := 56) (k := 3) (v := z12_3 + 1) (lv' := [(3, .int (z12_3 + 1)), (1, .int r52), (0, .ref a_this), (2, .int (v_made * 2))]) hx hb d_tr_draftId_56 hl rfl (mo_inc1 _) (by decide) rfl (fun ls hl => ?_)
        refine lv_goto (pc := 59) (tgt := 12) hx hb d_tr_draftId_59 rfl ?_
        exact hb12 (r52, z12_3 + 1) h _ (lv_sub hl [2, 1, 3, 0] rfl)
    ) _ _ hy12 _ (lv_sub hl [3, 2, 1, 0] rfl)
set_option maxRecDepth 100000 in
set_option maxHeartbeats 4000000 in
theorem c_tr_finish (l : Launch) (D : va_G) (cI cL cZ : ClassId) (a_this : Nat) (a_inputCounts : Nat) (a_outputCounts : Nat) (a_inputFingerprints : Nat) (a_inputOutputs : Nat) (a_inputSecrets : Nat) (a_outputLocks : Nat) (a_outputAmounts : Nat) (a_ids : Nat) (a_inputSlots : Nat) (a_inputLocks : Nat) (v_made : Int32) (f_inputCounts : Nat → Int32) (f_outputCounts : Nat → Int32) (f_inputFingerprints : Nat → Int32) (f_inputOutputs : Nat → Int32) (f_inputSecrets : Nat → Int32) (f_outputLocks : Nat → Int32) (f_outputAmounts : Nat → Int32) (f_ids : Nat → Int32) (o : Int32 × Int32 × (Nat → Int32)) (h : m_tr_finish v_made f_inputCounts f_outputCounts f_inputFingerprints f_inputOutputs f_inputSecrets f_outputLocks f_outputAmounts f_ids = some o) : Met l y_tr_finish (Cond.code y_tr_finish b_tr_finish 1 (some .int) :: WG) rm_tr_finish (va_Pc [.ref a_this] (mo_Pm D [(cI, .int), (cL, .long), (cZ, .boolean)] [(a_this, .inr (6, [.int v_made, .ref a_ids, .ref a_inputCounts, .ref a_inputSlots, .ref a_inputFingerprints, .ref a_inputOutputs, .ref a_inputSecrets, .ref a_inputLocks, .ref a_outputCounts, .ref a_outputLocks, .ref a_outputAmounts])), (a_inputCounts, .inl (cI, 41, .inl f_inputCounts)), (a_outputCounts, .inl (cI, 41, .inl f_outputCounts)), (a_inputFingerprints, .inl (cI, 82, .inl f_inputFingerprints)), (a_inputOutputs, .inl (cI, 82, .inl f_inputOutputs)), (a_inputSecrets, .inl (cI, 82, .inl f_inputSecrets)), (a_outputLocks, .inl (cI, 82, .inl f_outputLocks)), (a_outputAmounts, .inl (cI, 82, .inl f_outputAmounts)), (a_ids, .inl (cI, 41, .inl f_ids))])) (mo_Qm D [(a_this, .inr (6, [.int v_made, .ref a_ids, .ref a_inputCounts, .ref a_inputSlots, .ref a_inputFingerprints, .ref a_inputOutputs, .ref a_inputSecrets, .ref a_inputLocks, .ref a_outputCounts, .ref a_outputLocks, .ref a_outputAmounts])), (a_inputCounts, .inl (cI, 41, .inl f_inputCounts)), (a_outputCounts, .inl (cI, 41, .inl f_outputCounts)), (a_inputFingerprints, .inl (cI, 82, .inl f_inputFingerprints)), (a_inputOutputs, .inl (cI, 82, .inl f_inputOutputs)), (a_inputSecrets, .inl (cI, 82, .inl f_inputSecrets)), (a_outputLocks, .inl (cI, 82, .inl f_outputLocks)), (a_outputAmounts, .inl (cI, 82, .inl f_outputAmounts)), (a_ids, .inl (cI, 41, .inl f_ids))] (fun (o : Int32 × Int32 × (Nat → Int32)) => [(a_this, .inr (6, [.int o.2.1, .ref a_ids, .ref a_inputCounts, .ref a_inputSlots, .ref a_inputFingerprints, .ref a_inputOutputs, .ref a_inputSecrets, .ref a_inputLocks, .ref a_outputCounts, .ref a_outputLocks, .ref a_outputAmounts])), (a_inputCounts, .inl (cI, 41, .inl f_inputCounts)), (a_outputCounts, .inl (cI, 41, .inl f_outputCounts)), (a_inputFingerprints, .inl (cI, 82, .inl f_inputFingerprints)), (a_inputOutputs, .inl (cI, 82, .inl f_inputOutputs)), (a_inputSecrets, .inl (cI, 82, .inl f_inputSecrets)), (a_outputLocks, .inl (cI, 82, .inl f_outputLocks)), (a_outputAmounts, .inl (cI, 82, .inl f_outputAmounts)), (a_ids, .inl (cI, 41, .inl o.2.2))]) (fun (o : Int32 × Int32 × (Nat → Int32)) => (some (.int o.1))) o) 0 0 (mo_A [(a_this, .inr (6, [.int v_made, .ref a_ids, .ref a_inputCounts, .ref a_inputSlots, .ref a_inputFingerprints, .ref a_inputOutputs, .ref a_inputSecrets, .ref a_inputLocks, .ref a_outputCounts, .ref a_outputLocks, .ref a_outputAmounts])), (a_inputCounts, .inl (cI, 41, .inl f_inputCounts)), (a_outputCounts, .inl (cI, 41, .inl f_outputCounts)), (a_inputFingerprints, .inl (cI, 82, .inl f_inputFingerprints)), (a_inputOutputs, .inl (cI, 82, .inl f_inputOutputs)), (a_inputSecrets, .inl (cI, 82, .inl f_inputSecrets)), (a_outputLocks, .inl (cI, 82, .inl f_outputLocks)), (a_outputAmounts, .inl (cI, 82, .inl f_outputAmounts)), (a_ids, .inl (cI, 41, .inl f_ids))]) := by
  refine mo_start (by decide) (Nat.le_of_ble_eq_true rfl) ?_
  intro p e s m args below meth c hx hb hr hlocks hml hown hw hv ls hl Q hQ
  obtain ⟨hP, hK, hN, hD0⟩ := hv
  have hl : lv_has ls 1 [(0, .ref a_this)] := hl
  obtain ⟨A, hA2⟩ : ∃ A, A = mo_A [(a_this, .inr (6, [.int v_made, .ref a_ids, .ref a_inputCounts, .ref a_inputSlots, .ref a_inputFingerprints, .ref a_inputOutputs, .ref a_inputSecrets, .ref a_inputLocks, .ref a_outputCounts, .ref a_outputLocks, .ref a_outputAmounts])), (a_inputCounts, .inl (cI, 41, .inl f_inputCounts)), (a_outputCounts, .inl (cI, 41, .inl f_outputCounts)), (a_inputFingerprints, .inl (cI, 82, .inl f_inputFingerprints)), (a_inputOutputs, .inl (cI, 82, .inl f_inputOutputs)), (a_inputSecrets, .inl (cI, 82, .inl f_inputSecrets)), (a_outputLocks, .inl (cI, 82, .inl f_outputLocks)), (a_outputAmounts, .inl (cI, 82, .inl f_outputAmounts)), (a_ids, .inl (cI, 41, .inl f_ids))] := ⟨_, rfl⟩
  have hD : va_D A [(a_this, .inr (6, [.int v_made, .ref a_ids, .ref a_inputCounts, .ref a_inputSlots, .ref a_inputFingerprints, .ref a_inputOutputs, .ref a_inputSecrets, .ref a_inputLocks, .ref a_outputCounts, .ref a_outputLocks, .ref a_outputAmounts])), (a_inputCounts, .inl (cI, 41, .inl f_inputCounts)), (a_outputCounts, .inl (cI, 41, .inl f_outputCounts)), (a_inputFingerprints, .inl (cI, 82, .inl f_inputFingerprints)), (a_inputOutputs, .inl (cI, 82, .inl f_inputOutputs)), (a_inputSecrets, .inl (cI, 82, .inl f_inputSecrets)), (a_outputLocks, .inl (cI, 82, .inl f_outputLocks)), (a_outputAmounts, .inl (cI, 82, .inl f_outputAmounts)), (a_ids, .inl (cI, 41, .inl f_ids))] := hA2 ▸ mo_self hD0
  have hS : va_S A s.heap s.heap [] := va_S.rf
  unfold m_tr_finish at h
  refine lv_aload_n (pc := 0) hx hb d_tr_finish_0 rfl (lv_at hl 0 rfl) ?_
  refine gf_tr_42 (pc := 1) hx hb hw hN hown hK hP 0 rfl rfl d_tr_finish_1 ?_
  refine lv_bipush (pc := 4) (v := 40) hx hb d_tr_finish_4 (by decide) ?_
  refine lv_icmp_eq (pc := 6) (tgt := 33) hx hb d_tr_finish_6 rfl (fun hc => ?_) (fun hc => ?_)
  · have h := mo_t hc h
    refine lv_iconst (pc := 33) (v := (-1)) hx hb d_tr_finish_33 (by decide) ?_
    exact mo_retIm hx hb hr hlocks hQ hA2 h hP hS d_tr_finish_34 rfl
  · have h := mo_f hc h
    refine lv_aload_n (pc := 9) hx hb d_tr_finish_9 rfl (lv_at hl 0 rfl) ?_
    refine gf_tr_15 (pc := 10) hx hb hw hN hown hK hP 0 rfl rfl d_tr_finish_10 ?_
    refine lv_aload_n (pc := 13) hx hb d_tr_finish_13 rfl (lv_at hl 0 rfl) ?_
    refine gf_tr_42 (pc := 14) hx hb hw hN hown hK hP 0 rfl rfl d_tr_finish_14 ?_
    obtain ⟨v17, hi17, e17, h⟩ := mo_rI_e h
    refine mo_iald (pc := 17) hx hb hK hP 1 0 rfl rfl hi17 e17 d_tr_finish_17 ?_
    refine lv_if_eq (pc := 18) (tgt := 33) hx hb d_tr_finish_18 rfl (fun hc => ?_) (fun hc => ?_)
    · have h := mo_t hc h
      refine lv_iconst (pc := 33) (v := (-1)) hx hb d_tr_finish_33 (by decide) ?_
      exact mo_retIm hx hb hr hlocks hQ hA2 h hP hS d_tr_finish_34 rfl
    · have h := mo_f hc h
      refine lv_aload_n (pc := 21) hx hb d_tr_finish_21 rfl (lv_at hl 0 rfl) ?_
      refine gf_tr_33 (pc := 22) hx hb hw hN hown hK hP 0 rfl rfl d_tr_finish_22 ?_
      refine lv_aload_n (pc := 25) hx hb d_tr_finish_25 rfl (lv_at hl 0 rfl) ?_
      refine gf_tr_42 (pc := 26) hx hb hw hN hown hK hP 0 rfl rfl d_tr_finish_26 ?_
      obtain ⟨v29, hi29, e29, h⟩ := mo_rI_e h
      refine mo_iald (pc := 29) hx hb hK hP 2 0 rfl rfl hi29 e29 d_tr_finish_29 ?_
      refine lv_if_ne (pc := 30) (tgt := 35) hx hb d_tr_finish_30 rfl (fun hc => ?_) (fun hc => ?_)
      · have h := mo_f hc h
        refine lv_aload_n (pc := 35) hx hb d_tr_finish_35 rfl (lv_at hl 0 rfl) ?_
        refine gf_tr_11 (pc := 36) hx hb hw hN hown hK hP 0 rfl rfl d_tr_finish_36 ?_
        refine lv_aload_n (pc := 39) hx hb d_tr_finish_39 rfl (lv_at hl 0 rfl) ?_
        refine gf_tr_42 (pc := 40) hx hb hw hN hown hK hP 0 rfl rfl d_tr_finish_40 ?_
        refine lv_aload_n (pc := 43) hx hb d_tr_finish_43 rfl (lv_at hl 0 rfl) ?_
        obtain ⟨r44, hr44, h⟩ := mo_bd_e h
        refine mo_rV (pc := 44) (As := []) (rest := [.int v_made, .ref a_ids]) (st1 := [.int r44, .int v_made, .ref a_ids]) ⟨hx, hb, hml, hown, hw⟩ (c_tr_draftId l D cI cL cZ a_this a_inputCounts a_inputFingerprints a_inputOutputs a_inputSecrets a_outputCounts a_outputLocks a_outputAmounts a_ids a_inputSlots a_inputLocks v_made f_inputCounts f_inputFingerprints f_inputOutputs f_inputSecrets f_outputCounts f_outputLocks f_outputAmounts r44 hr44) (kV_tr_50 hw ⟨by decide, by decide⟩) (hP.sub [0, 1, 3, 4, 5, 2, 6, 7] rfl) hK hN rfl rfl rfl hl.1 rfl rfl d_tr_finish_44 rfl ?_
        obtain ⟨g47, hi47, e47, h⟩ := mo_wI_e h
        refine mo_iast (pc := 47) hx hb hK hP hD hS 8 0 rfl rfl hi47 e47 d_tr_finish_47 (fun H locs hP hD hS => ?_)
        have hP : va_P D cl [(a_this, .inr (6, [.int v_made, .ref a_ids, .ref a_inputCounts, .ref a_inputSlots, .ref a_inputFingerprints, .ref a_inputOutputs, .ref a_inputSecrets, .ref a_inputLocks, .ref a_outputCounts, .ref a_outputLocks, .ref a_outputAmounts])), (a_inputCounts, .inl (cI, 41, .inl f_inputCounts)), (a_outputCounts, .inl (cI, 41, .inl f_outputCounts)), (a_inputFingerprints, .inl (cI, 82, .inl f_inputFingerprints)), (a_inputOutputs, .inl (cI, 82, .inl f_inputOutputs)), (a_inputSecrets, .inl (cI, 82, .inl f_inputSecrets)), (a_outputLocks, .inl (cI, 82, .inl f_outputLocks)), (a_outputAmounts, .inl (cI, 82, .inl f_outputAmounts)), (a_ids, .inl (cI, 41, .inl g47))] H := hP
        have hD : va_D A [(a_this, .inr (6, [.int v_made, .ref a_ids, .ref a_inputCounts, .ref a_inputSlots, .ref a_inputFingerprints, .ref a_inputOutputs, .ref a_inputSecrets, .ref a_inputLocks, .ref a_outputCounts, .ref a_outputLocks, .ref a_outputAmounts])), (a_inputCounts, .inl (cI, 41, .inl f_inputCounts)), (a_outputCounts, .inl (cI, 41, .inl f_outputCounts)), (a_inputFingerprints, .inl (cI, 82, .inl f_inputFingerprints)), (a_inputOutputs, .inl (cI, 82, .inl f_inputOutputs)), (a_inputSecrets, .inl (cI, 82, .inl f_inputSecrets)), (a_outputLocks, .inl (cI, 82, .inl f_outputLocks)), (a_outputAmounts, .inl (cI, 82, .inl f_outputAmounts)), (a_ids, .inl (cI, 41, .inl g47))] := hD
        refine lv_aload_n (pc := 48) hx hb d_tr_finish_48 rfl (lv_at hl 0 rfl) ?_
        refine lv_dup (pc := 49) hx hb d_tr_finish_49 rfl ?_
        refine gf_tr_42 (pc := 50) hx hb hw hN hown hK hP 0 rfl rfl d_tr_finish_50 ?_
        refine lv_iconst (pc := 53) (v := 1) hx hb d_tr_finish_53 (by decide) ?_
        refine lv_iadd (pc := 54) hx hb d_tr_finish_54 ?_
        refine pf_tr_42 (pc := 55) hx hb hw hN hown hK hP hD hS 0 rfl (Nat.le_of_ble_eq_true rfl) d_tr_finish_55 (fun H locs hP hD hS => ?_)
        have hP : va_P D cl [(a_this, .inr (6, [.int (v_made + 1), .ref a_ids, .ref a_inputCounts, .ref a_inputSlots, .ref a_inputFingerprints, .ref a_inputOutputs, .ref a_inputSecrets, .ref a_inputLocks, .ref a_outputCounts, .ref a_outputLocks, .ref a_outputAmounts])), (a_inputCounts, .inl (cI, 41, .inl f_inputCounts)), (a_outputCounts, .inl (cI, 41, .inl f_outputCounts)), (a_inputFingerprints, .inl (cI, 82, .inl f_inputFingerprints)), (a_inputOutputs, .inl (cI, 82, .inl f_inputOutputs)), (a_inputSecrets, .inl (cI, 82, .inl f_inputSecrets)), (a_outputLocks, .inl (cI, 82, .inl f_outputLocks)), (a_outputAmounts, .inl (cI, 82, .inl f_outputAmounts)), (a_ids, .inl (cI, 41, .inl g47))] H := hP
        have hD : va_D A [(a_this, .inr (6, [.int (v_made + 1), .ref a_ids, .ref a_inputCounts, .ref a_inputSlots, .ref a_inputFingerprints, .ref a_inputOutputs, .ref a_inputSecrets, .ref a_inputLocks, .ref a_outputCounts, .ref a_outputLocks, .ref a_outputAmounts])), (a_inputCounts, .inl (cI, 41, .inl f_inputCounts)), (a_outputCounts, .inl (cI, 41, .inl f_outputCounts)), (a_inputFingerprints, .inl (cI, 82, .inl f_inputFingerprints)), (a_inputOutputs, .inl (cI, 82, .inl f_inputOutputs)), (a_inputSecrets, .inl (cI, 82, .inl f_inputSecrets)), (a_outputLocks, .inl (cI, 82, .inl f_outputLocks)), (a_outputAmounts, .inl (cI, 82, .inl f_outputAmounts)), (a_ids, .inl (cI, 41, .inl g47))] := hD
        refine lv_aload_n (pc := 58) hx hb d_tr_finish_58 rfl (lv_at hl 0 rfl) ?_
        refine gf_tr_42 (pc := 59) hx hb hw hN hown hK hP 0 rfl rfl d_tr_finish_59 ?_
        refine lv_iconst (pc := 62) (v := 1) hx hb d_tr_finish_62 (by decide) ?_
        refine lv_isub (pc := 63) hx hb d_tr_finish_63 ?_
        exact mo_retIm hx hb hr hlocks hQ hA2 h hP hS d_tr_finish_64 rfl
      · have h := mo_t hc h
        refine lv_iconst (pc := 33) (v := (-1)) hx hb d_tr_finish_33 (by decide) ?_
        exact mo_retIm hx hb hr hlocks hQ hA2 h hP hS d_tr_finish_34 rfl
set_option maxRecDepth 100000 in
set_option maxHeartbeats 4000000 in
theorem c_bm_transaction (l : Launch) (D : va_G) (cI cL cZ : ClassId) (a_this : Nat) (a_transactions : Nat) (a_transactions_inputCounts : Nat) (a_transactions_outputCounts : Nat) (a_transactions_inputFingerprints : Nat) (a_transactions_inputOutputs : Nat) (a_transactions_inputSecrets : Nat) (a_transactions_outputLocks : Nat) (a_transactions_outputAmounts : Nat) (a_transactions_ids : Nat) (a_blocks : Nat) (a_plan : Nat) (a_templatePlan : Nat) (a_dag : Nat) (a_orphans : Nat) (a_ledger : Nat) (a_pooled : Nat) (a_ahead : Nat) (a_transactions_inputSlots : Nat) (a_transactions_inputLocks : Nat) (v_transactions_made : Int32) (f_transactions_inputCounts : Nat → Int32) (f_transactions_outputCounts : Nat → Int32) (f_transactions_inputFingerprints : Nat → Int32) (f_transactions_inputOutputs : Nat → Int32) (f_transactions_inputSecrets : Nat → Int32) (f_transactions_outputLocks : Nat → Int32) (f_transactions_outputAmounts : Nat → Int32) (f_transactions_ids : Nat → Int32) (o : Int32 × Int32 × (Nat → Int32)) (h : m_bm_transaction v_transactions_made f_transactions_inputCounts f_transactions_outputCounts f_transactions_inputFingerprints f_transactions_inputOutputs f_transactions_inputSecrets f_transactions_outputLocks f_transactions_outputAmounts f_transactions_ids = some o) : Met l y_bm_transaction (Cond.code y_bm_transaction b_bm_transaction 1 (some .int) :: WG) rm_bm_transaction (va_Pc [.ref a_this] (mo_Pm D [(cI, .int), (cL, .long), (cZ, .boolean)] [(a_this, .inr (0, [.ref a_transactions, .ref a_blocks, .ref a_plan, .ref a_templatePlan, .ref a_dag, .ref a_orphans, .ref a_ledger, .ref a_pooled, .ref a_ahead])), (a_transactions, .inr (6, [.int v_transactions_made, .ref a_transactions_ids, .ref a_transactions_inputCounts, .ref a_transactions_inputSlots, .ref a_transactions_inputFingerprints, .ref a_transactions_inputOutputs, .ref a_transactions_inputSecrets, .ref a_transactions_inputLocks, .ref a_transactions_outputCounts, .ref a_transactions_outputLocks, .ref a_transactions_outputAmounts])), (a_transactions_inputCounts, .inl (cI, 41, .inl f_transactions_inputCounts)), (a_transactions_outputCounts, .inl (cI, 41, .inl f_transactions_outputCounts)), (a_transactions_inputFingerprints, .inl (cI, 82, .inl f_transactions_inputFingerprints)), (a_transactions_inputOutputs, .inl (cI, 82, .inl f_transactions_inputOutputs)), (a_transactions_inputSecrets, .inl (cI, 82, .inl f_transactions_inputSecrets)), (a_transactions_outputLocks, .inl (cI, 82, .inl f_transactions_outputLocks)), (a_transactions_outputAmounts, .inl (cI, 82, .inl f_transactions_outputAmounts)), (a_transactions_ids, .inl (cI, 41, .inl f_transactions_ids))])) (mo_Qm D [(a_this, .inr (0, [.ref a_transactions, .ref a_blocks, .ref a_plan, .ref a_templatePlan, .ref a_dag, .ref a_orphans, .ref a_ledger, .ref a_pooled, .ref a_ahead])), (a_transactions, .inr (6, [.int v_transactions_made, .ref a_transactions_ids, .ref a_transactions_inputCounts, .ref a_transactions_inputSlots, .ref a_transactions_inputFingerprints, .ref a_transactions_inputOutputs, .ref a_transactions_inputSecrets, .ref a_transactions_inputLocks, .ref a_transactions_outputCounts, .ref a_transactions_outputLocks, .ref a_transactions_outputAmounts])), (a_transactions_inputCounts, .inl (cI, 41, .inl f_transactions_inputCounts)), (a_transactions_outputCounts, .inl (cI, 41, .inl f_transactions_outputCounts)), (a_transactions_inputFingerprints, .inl (cI, 82, .inl f_transactions_inputFingerprints)), (a_transactions_inputOutputs, .inl (cI, 82, .inl f_transactions_inputOutputs)), (a_transactions_inputSecrets, .inl (cI, 82, .inl f_transactions_inputSecrets)), (a_transactions_outputLocks, .inl (cI, 82, .inl f_transactions_outputLocks)), (a_transactions_outputAmounts, .inl (cI, 82, .inl f_transactions_outputAmounts)), (a_transactions_ids, .inl (cI, 41, .inl f_transactions_ids))] (fun (o : Int32 × Int32 × (Nat → Int32)) => [(a_this, .inr (0, [.ref a_transactions, .ref a_blocks, .ref a_plan, .ref a_templatePlan, .ref a_dag, .ref a_orphans, .ref a_ledger, .ref a_pooled, .ref a_ahead])), (a_transactions, .inr (6, [.int o.2.1, .ref a_transactions_ids, .ref a_transactions_inputCounts, .ref a_transactions_inputSlots, .ref a_transactions_inputFingerprints, .ref a_transactions_inputOutputs, .ref a_transactions_inputSecrets, .ref a_transactions_inputLocks, .ref a_transactions_outputCounts, .ref a_transactions_outputLocks, .ref a_transactions_outputAmounts])), (a_transactions_inputCounts, .inl (cI, 41, .inl f_transactions_inputCounts)), (a_transactions_outputCounts, .inl (cI, 41, .inl f_transactions_outputCounts)), (a_transactions_inputFingerprints, .inl (cI, 82, .inl f_transactions_inputFingerprints)), (a_transactions_inputOutputs, .inl (cI, 82, .inl f_transactions_inputOutputs)), (a_transactions_inputSecrets, .inl (cI, 82, .inl f_transactions_inputSecrets)), (a_transactions_outputLocks, .inl (cI, 82, .inl f_transactions_outputLocks)), (a_transactions_outputAmounts, .inl (cI, 82, .inl f_transactions_outputAmounts)), (a_transactions_ids, .inl (cI, 41, .inl o.2.2))]) (fun (o : Int32 × Int32 × (Nat → Int32)) => (some (.int o.1))) o) 0 0 (mo_A [(a_this, .inr (0, [.ref a_transactions, .ref a_blocks, .ref a_plan, .ref a_templatePlan, .ref a_dag, .ref a_orphans, .ref a_ledger, .ref a_pooled, .ref a_ahead])), (a_transactions, .inr (6, [.int v_transactions_made, .ref a_transactions_ids, .ref a_transactions_inputCounts, .ref a_transactions_inputSlots, .ref a_transactions_inputFingerprints, .ref a_transactions_inputOutputs, .ref a_transactions_inputSecrets, .ref a_transactions_inputLocks, .ref a_transactions_outputCounts, .ref a_transactions_outputLocks, .ref a_transactions_outputAmounts])), (a_transactions_inputCounts, .inl (cI, 41, .inl f_transactions_inputCounts)), (a_transactions_outputCounts, .inl (cI, 41, .inl f_transactions_outputCounts)), (a_transactions_inputFingerprints, .inl (cI, 82, .inl f_transactions_inputFingerprints)), (a_transactions_inputOutputs, .inl (cI, 82, .inl f_transactions_inputOutputs)), (a_transactions_inputSecrets, .inl (cI, 82, .inl f_transactions_inputSecrets)), (a_transactions_outputLocks, .inl (cI, 82, .inl f_transactions_outputLocks)), (a_transactions_outputAmounts, .inl (cI, 82, .inl f_transactions_outputAmounts)), (a_transactions_ids, .inl (cI, 41, .inl f_transactions_ids))]) := by
  refine mo_start (by decide) (Nat.le_of_ble_eq_true rfl) ?_
  intro p e s m args below meth c hx hb hr hlocks hml hown hw hv ls hl Q hQ
  obtain ⟨hP, hK, hN, hD0⟩ := hv
  have hl : lv_has ls 1 [(0, .ref a_this)] := hl
  obtain ⟨A, hA2⟩ : ∃ A, A = mo_A [(a_this, .inr (0, [.ref a_transactions, .ref a_blocks, .ref a_plan, .ref a_templatePlan, .ref a_dag, .ref a_orphans, .ref a_ledger, .ref a_pooled, .ref a_ahead])), (a_transactions, .inr (6, [.int v_transactions_made, .ref a_transactions_ids, .ref a_transactions_inputCounts, .ref a_transactions_inputSlots, .ref a_transactions_inputFingerprints, .ref a_transactions_inputOutputs, .ref a_transactions_inputSecrets, .ref a_transactions_inputLocks, .ref a_transactions_outputCounts, .ref a_transactions_outputLocks, .ref a_transactions_outputAmounts])), (a_transactions_inputCounts, .inl (cI, 41, .inl f_transactions_inputCounts)), (a_transactions_outputCounts, .inl (cI, 41, .inl f_transactions_outputCounts)), (a_transactions_inputFingerprints, .inl (cI, 82, .inl f_transactions_inputFingerprints)), (a_transactions_inputOutputs, .inl (cI, 82, .inl f_transactions_inputOutputs)), (a_transactions_inputSecrets, .inl (cI, 82, .inl f_transactions_inputSecrets)), (a_transactions_outputLocks, .inl (cI, 82, .inl f_transactions_outputLocks)), (a_transactions_outputAmounts, .inl (cI, 82, .inl f_transactions_outputAmounts)), (a_transactions_ids, .inl (cI, 41, .inl f_transactions_ids))] := ⟨_, rfl⟩
  have hD : va_D A [(a_this, .inr (0, [.ref a_transactions, .ref a_blocks, .ref a_plan, .ref a_templatePlan, .ref a_dag, .ref a_orphans, .ref a_ledger, .ref a_pooled, .ref a_ahead])), (a_transactions, .inr (6, [.int v_transactions_made, .ref a_transactions_ids, .ref a_transactions_inputCounts, .ref a_transactions_inputSlots, .ref a_transactions_inputFingerprints, .ref a_transactions_inputOutputs, .ref a_transactions_inputSecrets, .ref a_transactions_inputLocks, .ref a_transactions_outputCounts, .ref a_transactions_outputLocks, .ref a_transactions_outputAmounts])), (a_transactions_inputCounts, .inl (cI, 41, .inl f_transactions_inputCounts)), (a_transactions_outputCounts, .inl (cI, 41, .inl f_transactions_outputCounts)), (a_transactions_inputFingerprints, .inl (cI, 82, .inl f_transactions_inputFingerprints)), (a_transactions_inputOutputs, .inl (cI, 82, .inl f_transactions_inputOutputs)), (a_transactions_inputSecrets, .inl (cI, 82, .inl f_transactions_inputSecrets)), (a_transactions_outputLocks, .inl (cI, 82, .inl f_transactions_outputLocks)), (a_transactions_outputAmounts, .inl (cI, 82, .inl f_transactions_outputAmounts)), (a_transactions_ids, .inl (cI, 41, .inl f_transactions_ids))] := hA2 ▸ mo_self hD0
  have hS : va_S A s.heap s.heap [] := va_S.rf
  unfold m_bm_transaction at h
  refine lv_aload_n (pc := 0) hx hb d_bm_transaction_0 rfl (lv_at hl 0 rfl) ?_
  refine gf_bm_12 (pc := 1) hx hb hw hN hown hK hP 0 rfl rfl d_bm_transaction_1 ?_
  obtain ⟨⟨r4, r4_0, r4_1⟩, hr4, h⟩ := mo_bd_e h
  try dsimp only at h
  refine mo_mV (pc := 4) (As := []) (rest := []) (st1 := [.int r4]) ⟨hx, hb, hml, hown, hw⟩ (c_tr_finish l D cI cL cZ a_transactions a_transactions_inputCounts a_transactions_outputCounts a_transactions_inputFingerprints a_transactions_inputOutputs a_transactions_inputSecrets a_transactions_outputLocks a_transactions_outputAmounts a_transactions_ids a_transactions_inputSlots a_transactions_inputLocks v_transactions_made f_transactions_inputCounts f_transactions_outputCounts f_transactions_inputFingerprints f_transactions_inputOutputs f_transactions_inputSecrets f_transactions_outputLocks f_transactions_outputAmounts f_transactions_ids (r4, r4_0, r4_1) hr4) (kV_bm_95 hw ⟨by decide, by decide⟩) hP hD hS hK hN [1, 2, 3, 4, 5, 6, 7, 8, 9] [none, some 0, some 1, some 2, some 3, some 4, some 5, some 6, some 7, some 8] rfl rfl rfl rfl rfl rfl rfl hl.1 rfl rfl d_bm_transaction_4 rfl (fun H locs hP hD hS => ?_)
  have hP : va_P D cl [(a_this, .inr (0, [.ref a_transactions, .ref a_blocks, .ref a_plan, .ref a_templatePlan, .ref a_dag, .ref a_orphans, .ref a_ledger, .ref a_pooled, .ref a_ahead])), (a_transactions, .inr (6, [.int r4_0, .ref a_transactions_ids, .ref a_transactions_inputCounts, .ref a_transactions_inputSlots, .ref a_transactions_inputFingerprints, .ref a_transactions_inputOutputs, .ref a_transactions_inputSecrets, .ref a_transactions_inputLocks, .ref a_transactions_outputCounts, .ref a_transactions_outputLocks, .ref a_transactions_outputAmounts])), (a_transactions_inputCounts, .inl (cI, 41, .inl f_transactions_inputCounts)), (a_transactions_outputCounts, .inl (cI, 41, .inl f_transactions_outputCounts)), (a_transactions_inputFingerprints, .inl (cI, 82, .inl f_transactions_inputFingerprints)), (a_transactions_inputOutputs, .inl (cI, 82, .inl f_transactions_inputOutputs)), (a_transactions_inputSecrets, .inl (cI, 82, .inl f_transactions_inputSecrets)), (a_transactions_outputLocks, .inl (cI, 82, .inl f_transactions_outputLocks)), (a_transactions_outputAmounts, .inl (cI, 82, .inl f_transactions_outputAmounts)), (a_transactions_ids, .inl (cI, 41, .inl r4_1))] H := hP
  have hD : va_D A [(a_this, .inr (0, [.ref a_transactions, .ref a_blocks, .ref a_plan, .ref a_templatePlan, .ref a_dag, .ref a_orphans, .ref a_ledger, .ref a_pooled, .ref a_ahead])), (a_transactions, .inr (6, [.int r4_0, .ref a_transactions_ids, .ref a_transactions_inputCounts, .ref a_transactions_inputSlots, .ref a_transactions_inputFingerprints, .ref a_transactions_inputOutputs, .ref a_transactions_inputSecrets, .ref a_transactions_inputLocks, .ref a_transactions_outputCounts, .ref a_transactions_outputLocks, .ref a_transactions_outputAmounts])), (a_transactions_inputCounts, .inl (cI, 41, .inl f_transactions_inputCounts)), (a_transactions_outputCounts, .inl (cI, 41, .inl f_transactions_outputCounts)), (a_transactions_inputFingerprints, .inl (cI, 82, .inl f_transactions_inputFingerprints)), (a_transactions_inputOutputs, .inl (cI, 82, .inl f_transactions_inputOutputs)), (a_transactions_inputSecrets, .inl (cI, 82, .inl f_transactions_inputSecrets)), (a_transactions_outputLocks, .inl (cI, 82, .inl f_transactions_outputLocks)), (a_transactions_outputAmounts, .inl (cI, 82, .inl f_transactions_outputAmounts)), (a_transactions_ids, .inl (cI, 41, .inl r4_1))] := hD
  exact mo_retIm hx hb hr hlocks hQ hA2 h hP hS d_bm_transaction_7 rfl
set_option maxRecDepth 100000 in
set_option maxHeartbeats 4000000 in
theorem c_nu_isFull (l : Launch) (D : va_G) (cI cL cZ : ClassId) (a_this : Nat) (a_held : Nat) (v_size : Int32) (f_held : Nat → Int32) (n_held : Nat) (o : Int32) (h : m_nu_isFull v_size n_held = some o) : Met l y_nu_isFull (Cond.code y_nu_isFull b_nu_isFull 1 (some .boolean) :: WG) rm_nu_isFull (va_Pc [.ref a_this] (mo_Pr D [(cI, .int), (cL, .long), (cZ, .boolean)] [(a_this, .inr (5, [.ref a_held, .int v_size])), (a_held, .inl (cI, n_held, .inl f_held))])) (mo_Qr (some (.int o))) 0 0 (fun _ => False) := by
  refine mo_start (by decide) (Nat.le_of_ble_eq_true rfl) ?_
  intro p e s m args below meth c hx hb hr hlocks hml hown hw hv ls hl Q hQ
  obtain ⟨hP, hK, hN⟩ := hv
  have hl : lv_has ls 1 [(0, .ref a_this)] := hl
  unfold m_nu_isFull at h
  refine lv_aload_n (pc := 0) hx hb d_nu_isFull_0 rfl (lv_at hl 0 rfl) ?_
  refine gf_nu_15 (pc := 1) hx hb hw hN hown hK hP 0 rfl rfl d_nu_isFull_1 ?_
  refine lv_aload_n (pc := 4) hx hb d_nu_isFull_4 rfl (lv_at hl 0 rfl) ?_
  refine gf_nu_9 (pc := 5) hx hb hw hN hown hK hP 0 rfl rfl d_nu_isFull_5 ?_
  refine va_alen (pc := 8) hx hb hK hP 1 0 rfl rfl rfl d_nu_isFull_8 ?_
  refine lv_icmp_ne (pc := 9) (tgt := 16) hx hb d_nu_isFull_9 rfl (fun hc => ?_) (fun hc => ?_)
  · have h := mo_f hc h
    refine lv_iconst (pc := 16) (v := 0) hx hb d_nu_isFull_16 (by decide) ?_
    exact mo_retZr (mo_nz (by decide)) hx hb hr hlocks hQ h d_nu_isFull_17
  · have h := mo_t hc h
    refine lv_iconst (pc := 12) (v := 1) hx hb d_nu_isFull_12 (by decide) ?_
    refine lv_goto (pc := 13) (tgt := 17) hx hb d_nu_isFull_13 rfl ?_
    exact mo_retZr (mo_nz (by decide)) hx hb hr hlocks hQ h d_nu_isFull_17
set_option maxRecDepth 100000 in
set_option maxHeartbeats 4000000 in
theorem c_nu_has (l : Launch) (D : va_G) (cI cL cZ : ClassId) (a_this : Nat) (a_held : Nat) (v_size : Int32) (f_held : Nat → Int32) (n_held : Nat) (x1 : Int32) (o : Int32) (h : m_nu_has v_size f_held n_held x1 = some o) : Met l y_nu_has (Cond.code y_nu_has b_nu_has 3 (some .boolean) :: WG) rm_nu_has (va_Pc [.ref a_this, .int x1] (mo_Pr D [(cI, .int), (cL, .long), (cZ, .boolean)] [(a_this, .inr (5, [.ref a_held, .int v_size])), (a_held, .inl (cI, n_held, .inl f_held))])) (mo_Qr (some (.int o))) 0 0 (fun _ => False) := by
  refine mo_start (by decide) (Nat.le_of_ble_eq_true rfl) ?_
  intro p e s m args below meth c hx hb hr hlocks hml hown hw hv ls hl Q hQ
  obtain ⟨hP, hK, hN⟩ := hv
  have hl : lv_has ls 3 [(0, .ref a_this), (1, .int x1)] := hl
  unfold m_nu_has at h
  refine lv_iconst (pc := 0) (v := 0) hx hb d_nu_has_0 (by decide) ?_
  refine lv_istore_n (pc := 1) (lv' := [(2, .int 0), (0, .ref a_this), (1, .int x1)]) hx hb d_nu_has_1 rfl hl (by decide) rfl (fun ls hl => ?_)
  exact mo_lp_i (step := (m_nu_has_L2 v_size f_held n_held x1)) (o := o) (fun (z2_2 : Int32) => ∀ (ls : Array Slot) (hl : lv_has ls 3 [(0, .ref a_this), (1, .int x1), (2, .int z2_2)]), W p l e rm_nu_has s m args below meth c s.heap [] 0 0 Q (F0 m 2 ls [])) (by
      intro bk2 hb2 z2_2 h ls hl
      unfold m_nu_has_L2 at h
      try dsimp only at h
      refine lv_iload_n (pc := 2) hx hb d_nu_has_2 rfl (lv_at hl 2 rfl) ?_
      refine lv_aload_n (pc := 3) hx hb d_nu_has_3 rfl (lv_at hl 0 rfl) ?_
      refine gf_nu_15 (pc := 4) hx hb hw hN hown hK hP 0 rfl rfl d_nu_has_4 ?_
      refine lv_icmp_ge (pc := 7) (tgt := 28) hx hb d_nu_has_7 rfl (fun hc => ?_) (fun hc => ?_)
      · have h := mo_t hc h
        refine lv_iconst (pc := 28) (v := 0) hx hb d_nu_has_28 (by decide) ?_
        exact mo_retZr (mo_nz (by decide)) hx hb hr hlocks hQ h d_nu_has_29
      · have h := mo_f hc h
        refine lv_aload_n (pc := 10) hx hb d_nu_has_10 rfl (lv_at hl 0 rfl) ?_
        refine gf_nu_9 (pc := 11) hx hb hw hN hown hK hP 0 rfl rfl d_nu_has_11 ?_
        refine lv_iload_n (pc := 14) hx hb d_nu_has_14 rfl (lv_at hl 2 rfl) ?_
        obtain ⟨v15, hi15, e15, h⟩ := mo_rI_e h
        refine mo_iald (pc := 15) hx hb hK hP 1 0 rfl rfl hi15 e15 d_nu_has_15 ?_
        refine lv_iload_n (pc := 16) hx hb d_nu_has_16 rfl (lv_at hl 1 rfl) ?_
        refine lv_icmp_ne (pc := 17) (tgt := 22) hx hb d_nu_has_17 rfl (fun hc => ?_) (fun hc => ?_)
        · have h := mo_f hc h
          refine lv_iinc (pc := 22) (k := 2) (v := z2_2 + 1) (lv' := [(2, .int (z2_2 + 1)), (0, .ref a_this), (1, .int x1)]) hx hb d_nu_has_22 hl rfl (mo_inc1 _) (by decide) rfl (fun ls hl => ?_)
          refine lv_goto (pc := 25) (tgt := 2) hx hb d_nu_has_25 rfl ?_
          exact hb2 (z2_2 + 1) h _ (lv_sub hl [1, 2, 0] rfl)
        · have h := mo_t hc h
          refine lv_iconst (pc := 20) (v := 1) hx hb d_nu_has_20 (by decide) ?_
          exact mo_retZr (mo_nz (by decide)) hx hb hr hlocks hQ h d_nu_has_21
    ) _ _ h _ (lv_sub hl [1, 2, 0] rfl)
set_option maxRecDepth 100000 in
set_option maxHeartbeats 4000000 in
theorem c_nu_addNew (l : Launch) (D : va_G) (cI cL cZ : ClassId) (a_this : Nat) (a_held : Nat) (v_size : Int32) (f_held : Nat → Int32) (n_held : Nat) (x1 : Int32) (o : Int32 × Int32 × (Nat → Int32)) (h : m_nu_addNew v_size f_held n_held x1 = some o) : Met l y_nu_addNew (Cond.code y_nu_addNew b_nu_addNew 2 (some .boolean) :: WG) rm_nu_addNew (va_Pc [.ref a_this, .int x1] (mo_Pm D [(cI, .int), (cL, .long), (cZ, .boolean)] [(a_this, .inr (5, [.ref a_held, .int v_size])), (a_held, .inl (cI, n_held, .inl f_held))])) (mo_Qm D [(a_this, .inr (5, [.ref a_held, .int v_size])), (a_held, .inl (cI, n_held, .inl f_held))] (fun (o : Int32 × Int32 × (Nat → Int32)) => [(a_this, .inr (5, [.ref a_held, .int o.2.1])), (a_held, .inl (cI, n_held, .inl o.2.2))]) (fun (o : Int32 × Int32 × (Nat → Int32)) => (some (.int o.1))) o) 0 0 (mo_A [(a_this, .inr (5, [.ref a_held, .int v_size])), (a_held, .inl (cI, n_held, .inl f_held))]) := by
  refine mo_start (by decide) (Nat.le_of_ble_eq_true rfl) ?_
  intro p e s m args below meth c hx hb hr hlocks hml hown hw hv ls hl Q hQ
  obtain ⟨hP, hK, hN, hD0⟩ := hv
  have hl : lv_has ls 2 [(0, .ref a_this), (1, .int x1)] := hl
  obtain ⟨A, hA2⟩ : ∃ A, A = mo_A [(a_this, .inr (5, [.ref a_held, .int v_size])), (a_held, .inl (cI, n_held, .inl f_held))] := ⟨_, rfl⟩
  have hD : va_D A [(a_this, .inr (5, [.ref a_held, .int v_size])), (a_held, .inl (cI, n_held, .inl f_held))] := hA2 ▸ mo_self hD0
  have hS : va_S A s.heap s.heap [] := va_S.rf
  unfold m_nu_addNew at h
  refine lv_aload_n (pc := 0) hx hb d_nu_addNew_0 rfl (lv_at hl 0 rfl) ?_
  obtain ⟨r1, hr1, h⟩ := mo_bd_e h
  refine mo_rV (pc := 1) (As := []) (rest := []) (st1 := [.int r1]) ⟨hx, hb, hml, hown, hw⟩ (c_nu_isFull l D cI cL cZ a_this a_held v_size f_held n_held r1 hr1) (kV_nu_19 hw ⟨by decide, by decide⟩) (hP.sub [0, 1] rfl) hK hN rfl rfl rfl hl.1 rfl rfl d_nu_addNew_1 rfl ?_
  refine lv_if_ne (pc := 4) (tgt := 15) hx hb d_nu_addNew_4 rfl (fun hc => ?_) (fun hc => ?_)
  · have h := mo_f hc h
    refine lv_iconst (pc := 15) (v := 0) hx hb d_nu_addNew_15 (by decide) ?_
    exact mo_retZm (mo_nz (by decide)) hx hb hr hlocks hQ hA2 h hP hS d_nu_addNew_16 rfl
  · have h := mo_t hc h
    refine lv_aload_n (pc := 7) hx hb d_nu_addNew_7 rfl (lv_at hl 0 rfl) ?_
    refine lv_iload_n (pc := 8) hx hb d_nu_addNew_8 rfl (lv_at hl 1 rfl) ?_
    obtain ⟨r9, hr9, h⟩ := mo_bd_e h
    refine mo_rV (pc := 9) (As := [.int x1]) (rest := []) (st1 := [.int r9]) ⟨hx, hb, hml, hown, hw⟩ (c_nu_has l D cI cL cZ a_this a_held v_size f_held n_held x1 r9 hr9) (kV_nu_23 hw ⟨by decide, by decide⟩) (hP.sub [0, 1] rfl) hK hN rfl rfl rfl hl.1 rfl rfl d_nu_addNew_9 rfl ?_
    refine lv_if_eq (pc := 12) (tgt := 17) hx hb d_nu_addNew_12 rfl (fun hc => ?_) (fun hc => ?_)
    · have h := mo_t hc h
      refine lv_aload_n (pc := 17) hx hb d_nu_addNew_17 rfl (lv_at hl 0 rfl) ?_
      refine gf_nu_9 (pc := 18) hx hb hw hN hown hK hP 0 rfl rfl d_nu_addNew_18 ?_
      refine lv_aload_n (pc := 21) hx hb d_nu_addNew_21 rfl (lv_at hl 0 rfl) ?_
      refine gf_nu_15 (pc := 22) hx hb hw hN hown hK hP 0 rfl rfl d_nu_addNew_22 ?_
      refine lv_iload_n (pc := 25) hx hb d_nu_addNew_25 rfl (lv_at hl 1 rfl) ?_
      obtain ⟨g26, hi26, e26, h⟩ := mo_wI_e h
      refine mo_iast (pc := 26) hx hb hK hP hD hS 1 0 rfl rfl hi26 e26 d_nu_addNew_26 (fun H locs hP hD hS => ?_)
      have hP : va_P D cl [(a_this, .inr (5, [.ref a_held, .int v_size])), (a_held, .inl (cI, n_held, .inl g26))] H := hP
      have hD : va_D A [(a_this, .inr (5, [.ref a_held, .int v_size])), (a_held, .inl (cI, n_held, .inl g26))] := hD
      refine lv_aload_n (pc := 27) hx hb d_nu_addNew_27 rfl (lv_at hl 0 rfl) ?_
      refine lv_dup (pc := 28) hx hb d_nu_addNew_28 rfl ?_
      refine gf_nu_15 (pc := 29) hx hb hw hN hown hK hP 0 rfl rfl d_nu_addNew_29 ?_
      refine lv_iconst (pc := 32) (v := 1) hx hb d_nu_addNew_32 (by decide) ?_
      refine lv_iadd (pc := 33) hx hb d_nu_addNew_33 ?_
      refine pf_nu_15 (pc := 34) hx hb hw hN hown hK hP hD hS 0 rfl (Nat.le_of_ble_eq_true rfl) d_nu_addNew_34 (fun H locs hP hD hS => ?_)
      have hP : va_P D cl [(a_this, .inr (5, [.ref a_held, .int (v_size + 1)])), (a_held, .inl (cI, n_held, .inl g26))] H := hP
      have hD : va_D A [(a_this, .inr (5, [.ref a_held, .int (v_size + 1)])), (a_held, .inl (cI, n_held, .inl g26))] := hD
      refine lv_iconst (pc := 37) (v := 1) hx hb d_nu_addNew_37 (by decide) ?_
      exact mo_retZm (mo_nz (by decide)) hx hb hr hlocks hQ hA2 h hP hS d_nu_addNew_38 rfl
    · have h := mo_f hc h
      refine lv_iconst (pc := 15) (v := 0) hx hb d_nu_addNew_15 (by decide) ?_
      exact mo_retZm (mo_nz (by decide)) hx hb hr hlocks hQ hA2 h hP hS d_nu_addNew_16 rfl
set_option maxRecDepth 100000 in
set_option maxHeartbeats 4000000 in
theorem c_bm_parent (l : Launch) (D : va_G) (cI cL cZ : ClassId) (a_this : Nat) (a_blocks : Nat) (a_plan : Nat) (a_plan_parents : Nat) (a_plan_parents_held : Nat) (a_transactions : Nat) (a_templatePlan : Nat) (a_dag : Nat) (a_orphans : Nat) (a_ledger : Nat) (a_pooled : Nat) (a_ahead : Nat) (a_blocks_parentCounts : Nat) (a_blocks_parents : Nat) (a_blocks_includedCounts : Nat) (a_blocks_included : Nat) (a_blocks_locks : Nat) (a_blocks_hashes : Nat) (a_plan_included : Nat) (v_blocks_made : Int32) (v_plan_parents_size : Int32) (f_plan_parents_held : Nat → Int32) (x1 : Int32) (o : Int32 × Int32 × (Nat → Int32)) (h : m_bm_parent v_blocks_made v_plan_parents_size f_plan_parents_held x1 = some o) : Met l y_bm_parent (Cond.code y_bm_parent b_bm_parent 2 (some .boolean) :: WG) rm_bm_parent (va_Pc [.ref a_this, .int x1] (mo_Pm D [(cI, .int), (cL, .long), (cZ, .boolean)] [(a_this, .inr (0, [.ref a_transactions, .ref a_blocks, .ref a_plan, .ref a_templatePlan, .ref a_dag, .ref a_orphans, .ref a_ledger, .ref a_pooled, .ref a_ahead])), (a_blocks, .inr (2, [.int v_blocks_made, .ref a_blocks_parentCounts, .ref a_blocks_parents, .ref a_blocks_includedCounts, .ref a_blocks_included, .ref a_blocks_locks, .ref a_blocks_hashes])), (a_plan, .inr (1, [.ref a_plan_parents, .ref a_plan_included])), (a_plan_parents, .inr (5, [.ref a_plan_parents_held, .int v_plan_parents_size])), (a_plan_parents_held, .inl (cI, 4, .inl f_plan_parents_held))])) (mo_Qm D [(a_this, .inr (0, [.ref a_transactions, .ref a_blocks, .ref a_plan, .ref a_templatePlan, .ref a_dag, .ref a_orphans, .ref a_ledger, .ref a_pooled, .ref a_ahead])), (a_blocks, .inr (2, [.int v_blocks_made, .ref a_blocks_parentCounts, .ref a_blocks_parents, .ref a_blocks_includedCounts, .ref a_blocks_included, .ref a_blocks_locks, .ref a_blocks_hashes])), (a_plan, .inr (1, [.ref a_plan_parents, .ref a_plan_included])), (a_plan_parents, .inr (5, [.ref a_plan_parents_held, .int v_plan_parents_size])), (a_plan_parents_held, .inl (cI, 4, .inl f_plan_parents_held))] (fun (o : Int32 × Int32 × (Nat → Int32)) => [(a_this, .inr (0, [.ref a_transactions, .ref a_blocks, .ref a_plan, .ref a_templatePlan, .ref a_dag, .ref a_orphans, .ref a_ledger, .ref a_pooled, .ref a_ahead])), (a_blocks, .inr (2, [.int v_blocks_made, .ref a_blocks_parentCounts, .ref a_blocks_parents, .ref a_blocks_includedCounts, .ref a_blocks_included, .ref a_blocks_locks, .ref a_blocks_hashes])), (a_plan, .inr (1, [.ref a_plan_parents, .ref a_plan_included])), (a_plan_parents, .inr (5, [.ref a_plan_parents_held, .int o.2.1])), (a_plan_parents_held, .inl (cI, 4, .inl o.2.2))]) (fun (o : Int32 × Int32 × (Nat → Int32)) => (some (.int o.1))) o) 0 0 (mo_A [(a_this, .inr (0, [.ref a_transactions, .ref a_blocks, .ref a_plan, .ref a_templatePlan, .ref a_dag, .ref a_orphans, .ref a_ledger, .ref a_pooled, .ref a_ahead])), (a_blocks, .inr (2, [.int v_blocks_made, .ref a_blocks_parentCounts, .ref a_blocks_parents, .ref a_blocks_includedCounts, .ref a_blocks_included, .ref a_blocks_locks, .ref a_blocks_hashes])), (a_plan, .inr (1, [.ref a_plan_parents, .ref a_plan_included])), (a_plan_parents, .inr (5, [.ref a_plan_parents_held, .int v_plan_parents_size])), (a_plan_parents_held, .inl (cI, 4, .inl f_plan_parents_held))]) := by
  refine mo_start (by decide) (Nat.le_of_ble_eq_true rfl) ?_
  intro p e s m args below meth c hx hb hr hlocks hml hown hw hv ls hl Q hQ
  obtain ⟨hP, hK, hN, hD0⟩ := hv
  have hl : lv_has ls 2 [(0, .ref a_this), (1, .int x1)] := hl
  obtain ⟨A, hA2⟩ : ∃ A, A = mo_A [(a_this, .inr (0, [.ref a_transactions, .ref a_blocks, .ref a_plan, .ref a_templatePlan, .ref a_dag, .ref a_orphans, .ref a_ledger, .ref a_pooled, .ref a_ahead])), (a_blocks, .inr (2, [.int v_blocks_made, .ref a_blocks_parentCounts, .ref a_blocks_parents, .ref a_blocks_includedCounts, .ref a_blocks_included, .ref a_blocks_locks, .ref a_blocks_hashes])), (a_plan, .inr (1, [.ref a_plan_parents, .ref a_plan_included])), (a_plan_parents, .inr (5, [.ref a_plan_parents_held, .int v_plan_parents_size])), (a_plan_parents_held, .inl (cI, 4, .inl f_plan_parents_held))] := ⟨_, rfl⟩
  have hD : va_D A [(a_this, .inr (0, [.ref a_transactions, .ref a_blocks, .ref a_plan, .ref a_templatePlan, .ref a_dag, .ref a_orphans, .ref a_ledger, .ref a_pooled, .ref a_ahead])), (a_blocks, .inr (2, [.int v_blocks_made, .ref a_blocks_parentCounts, .ref a_blocks_parents, .ref a_blocks_includedCounts, .ref a_blocks_included, .ref a_blocks_locks, .ref a_blocks_hashes])), (a_plan, .inr (1, [.ref a_plan_parents, .ref a_plan_included])), (a_plan_parents, .inr (5, [.ref a_plan_parents_held, .int v_plan_parents_size])), (a_plan_parents_held, .inl (cI, 4, .inl f_plan_parents_held))] := hA2 ▸ mo_self hD0
  have hS : va_S A s.heap s.heap [] := va_S.rf
  unfold m_bm_parent at h
  refine lv_aload_n (pc := 0) hx hb d_bm_parent_0 rfl (lv_at hl 0 rfl) ?_
  refine gf_bm_19 (pc := 1) hx hb hw hN hown hK hP 0 rfl rfl d_bm_parent_1 ?_
  refine lv_iload_n (pc := 4) hx hb d_bm_parent_4 rfl (lv_at hl 1 rfl) ?_
  obtain ⟨r5, hr5, h⟩ := mo_bd_e h
  refine mo_rV (pc := 5) (As := [.int x1]) (rest := []) (st1 := [.int r5]) ⟨hx, hb, hml, hown, hw⟩ (c_bl_has l D cI cL cZ a_blocks a_blocks_parentCounts a_blocks_parents a_blocks_includedCounts a_blocks_included a_blocks_locks a_blocks_hashes v_blocks_made x1 r5 hr5) (kV_bm_99 hw ⟨by decide, by decide⟩) (hP.sub [1] rfl) hK hN rfl rfl rfl hl.1 rfl rfl d_bm_parent_5 rfl ?_
  refine lv_if_eq (pc := 8) (tgt := 29) hx hb d_bm_parent_8 rfl (fun hc => ?_) (fun hc => ?_)
  · have h := mo_t hc h
    refine lv_iconst (pc := 29) (v := 0) hx hb d_bm_parent_29 (by decide) ?_
    exact mo_retZm (mo_nz (by decide)) hx hb hr hlocks hQ hA2 h hP hS d_bm_parent_30 rfl
  · have h := mo_f hc h
    refine lv_aload_n (pc := 11) hx hb d_bm_parent_11 rfl (lv_at hl 0 rfl) ?_
    refine gf_bm_26 (pc := 12) hx hb hw hN hown hK hP 0 rfl rfl d_bm_parent_12 ?_
    refine gf_bm_102 (pc := 15) hx hb hw hN hown hK hP 2 rfl rfl d_bm_parent_15 ?_
    refine lv_iload_n (pc := 18) hx hb d_bm_parent_18 rfl (lv_at hl 1 rfl) ?_
    obtain ⟨⟨r19, r19_0, r19_1⟩, hr19, h⟩ := mo_bd_e h
    try dsimp only at h
    refine mo_mV (pc := 19) (As := [.int x1]) (rest := []) (st1 := [.int r19]) ⟨hx, hb, hml, hown, hw⟩ (c_nu_addNew l D cI cL cZ a_plan_parents a_plan_parents_held v_plan_parents_size f_plan_parents_held 4 x1 (r19, r19_0, r19_1) hr19) (kV_bm_105 hw ⟨by decide, by decide⟩) hP hD hS hK hN [3, 4] [none, none, none, some 0, some 1] rfl rfl rfl rfl rfl rfl rfl hl.1 rfl rfl d_bm_parent_19 rfl (fun H locs hP hD hS => ?_)
    have hP : va_P D cl [(a_this, .inr (0, [.ref a_transactions, .ref a_blocks, .ref a_plan, .ref a_templatePlan, .ref a_dag, .ref a_orphans, .ref a_ledger, .ref a_pooled, .ref a_ahead])), (a_blocks, .inr (2, [.int v_blocks_made, .ref a_blocks_parentCounts, .ref a_blocks_parents, .ref a_blocks_includedCounts, .ref a_blocks_included, .ref a_blocks_locks, .ref a_blocks_hashes])), (a_plan, .inr (1, [.ref a_plan_parents, .ref a_plan_included])), (a_plan_parents, .inr (5, [.ref a_plan_parents_held, .int r19_0])), (a_plan_parents_held, .inl (cI, 4, .inl r19_1))] H := hP
    have hD : va_D A [(a_this, .inr (0, [.ref a_transactions, .ref a_blocks, .ref a_plan, .ref a_templatePlan, .ref a_dag, .ref a_orphans, .ref a_ledger, .ref a_pooled, .ref a_ahead])), (a_blocks, .inr (2, [.int v_blocks_made, .ref a_blocks_parentCounts, .ref a_blocks_parents, .ref a_blocks_includedCounts, .ref a_blocks_included, .ref a_blocks_locks, .ref a_blocks_hashes])), (a_plan, .inr (1, [.ref a_plan_parents, .ref a_plan_included])), (a_plan_parents, .inr (5, [.ref a_plan_parents_held, .int r19_0])), (a_plan_parents_held, .inl (cI, 4, .inl r19_1))] := hD
    refine lv_if_eq (pc := 22) (tgt := 29) hx hb d_bm_parent_22 rfl (fun hc => ?_) (fun hc => ?_)
    · have h := mo_t hc h
      refine lv_iconst (pc := 29) (v := 0) hx hb d_bm_parent_29 (by decide) ?_
      exact mo_retZm (mo_nz (by decide)) hx hb hr hlocks hQ hA2 h hP hS d_bm_parent_30 rfl
    · have h := mo_f hc h
      refine lv_iconst (pc := 25) (v := 1) hx hb d_bm_parent_25 (by decide) ?_
      refine lv_goto (pc := 26) (tgt := 30) hx hb d_bm_parent_26 rfl ?_
      exact mo_retZm (mo_nz (by decide)) hx hb hr hlocks hQ hA2 h hP hS d_bm_parent_30 rfl
set_option maxRecDepth 100000 in
set_option maxHeartbeats 4000000 in
theorem c_bm_include (l : Launch) (D : va_G) (cI cL cZ : ClassId) (a_this : Nat) (a_transactions : Nat) (a_plan : Nat) (a_plan_included : Nat) (a_plan_included_held : Nat) (a_blocks : Nat) (a_templatePlan : Nat) (a_dag : Nat) (a_orphans : Nat) (a_ledger : Nat) (a_pooled : Nat) (a_ahead : Nat) (a_transactions_ids : Nat) (a_transactions_inputCounts : Nat) (a_transactions_inputSlots : Nat) (a_transactions_inputFingerprints : Nat) (a_transactions_inputOutputs : Nat) (a_transactions_inputSecrets : Nat) (a_transactions_inputLocks : Nat) (a_transactions_outputCounts : Nat) (a_transactions_outputLocks : Nat) (a_transactions_outputAmounts : Nat) (a_plan_parents : Nat) (v_transactions_made : Int32) (v_plan_included_size : Int32) (f_plan_included_held : Nat → Int32) (x1 : Int32) (o : Int32 × Int32 × (Nat → Int32)) (h : m_bm_include v_transactions_made v_plan_included_size f_plan_included_held x1 = some o) : Met l y_bm_include (Cond.code y_bm_include b_bm_include 2 (some .boolean) :: WG) rm_bm_include (va_Pc [.ref a_this, .int x1] (mo_Pm D [(cI, .int), (cL, .long), (cZ, .boolean)] [(a_this, .inr (0, [.ref a_transactions, .ref a_blocks, .ref a_plan, .ref a_templatePlan, .ref a_dag, .ref a_orphans, .ref a_ledger, .ref a_pooled, .ref a_ahead])), (a_transactions, .inr (6, [.int v_transactions_made, .ref a_transactions_ids, .ref a_transactions_inputCounts, .ref a_transactions_inputSlots, .ref a_transactions_inputFingerprints, .ref a_transactions_inputOutputs, .ref a_transactions_inputSecrets, .ref a_transactions_inputLocks, .ref a_transactions_outputCounts, .ref a_transactions_outputLocks, .ref a_transactions_outputAmounts])), (a_plan, .inr (1, [.ref a_plan_parents, .ref a_plan_included])), (a_plan_included, .inr (5, [.ref a_plan_included_held, .int v_plan_included_size])), (a_plan_included_held, .inl (cI, 3, .inl f_plan_included_held))])) (mo_Qm D [(a_this, .inr (0, [.ref a_transactions, .ref a_blocks, .ref a_plan, .ref a_templatePlan, .ref a_dag, .ref a_orphans, .ref a_ledger, .ref a_pooled, .ref a_ahead])), (a_transactions, .inr (6, [.int v_transactions_made, .ref a_transactions_ids, .ref a_transactions_inputCounts, .ref a_transactions_inputSlots, .ref a_transactions_inputFingerprints, .ref a_transactions_inputOutputs, .ref a_transactions_inputSecrets, .ref a_transactions_inputLocks, .ref a_transactions_outputCounts, .ref a_transactions_outputLocks, .ref a_transactions_outputAmounts])), (a_plan, .inr (1, [.ref a_plan_parents, .ref a_plan_included])), (a_plan_included, .inr (5, [.ref a_plan_included_held, .int v_plan_included_size])), (a_plan_included_held, .inl (cI, 3, .inl f_plan_included_held))] (fun (o : Int32 × Int32 × (Nat → Int32)) => [(a_this, .inr (0, [.ref a_transactions, .ref a_blocks, .ref a_plan, .ref a_templatePlan, .ref a_dag, .ref a_orphans, .ref a_ledger, .ref a_pooled, .ref a_ahead])), (a_transactions, .inr (6, [.int v_transactions_made, .ref a_transactions_ids, .ref a_transactions_inputCounts, .ref a_transactions_inputSlots, .ref a_transactions_inputFingerprints, .ref a_transactions_inputOutputs, .ref a_transactions_inputSecrets, .ref a_transactions_inputLocks, .ref a_transactions_outputCounts, .ref a_transactions_outputLocks, .ref a_transactions_outputAmounts])), (a_plan, .inr (1, [.ref a_plan_parents, .ref a_plan_included])), (a_plan_included, .inr (5, [.ref a_plan_included_held, .int o.2.1])), (a_plan_included_held, .inl (cI, 3, .inl o.2.2))]) (fun (o : Int32 × Int32 × (Nat → Int32)) => (some (.int o.1))) o) 0 0 (mo_A [(a_this, .inr (0, [.ref a_transactions, .ref a_blocks, .ref a_plan, .ref a_templatePlan, .ref a_dag, .ref a_orphans, .ref a_ledger, .ref a_pooled, .ref a_ahead])), (a_transactions, .inr (6, [.int v_transactions_made, .ref a_transactions_ids, .ref a_transactions_inputCounts, .ref a_transactions_inputSlots, .ref a_transactions_inputFingerprints, .ref a_transactions_inputOutputs, .ref a_transactions_inputSecrets, .ref a_transactions_inputLocks, .ref a_transactions_outputCounts, .ref a_transactions_outputLocks, .ref a_transactions_outputAmounts])), (a_plan, .inr (1, [.ref a_plan_parents, .ref a_plan_included])), (a_plan_included, .inr (5, [.ref a_plan_included_held, .int v_plan_included_size])), (a_plan_included_held, .inl (cI, 3, .inl f_plan_included_held))]) := by
  refine mo_start (by decide) (Nat.le_of_ble_eq_true rfl) ?_
  intro p e s m args below meth c hx hb hr hlocks hml hown hw hv ls hl Q hQ
  obtain ⟨hP, hK, hN, hD0⟩ := hv
  have hl : lv_has ls 2 [(0, .ref a_this), (1, .int x1)] := hl
  obtain ⟨A, hA2⟩ : ∃ A, A = mo_A [(a_this, .inr (0, [.ref a_transactions, .ref a_blocks, .ref a_plan, .ref a_templatePlan, .ref a_dag, .ref a_orphans, .ref a_ledger, .ref a_pooled, .ref a_ahead])), (a_transactions, .inr (6, [.int v_transactions_made, .ref a_transactions_ids, .ref a_transactions_inputCounts, .ref a_transactions_inputSlots, .ref a_transactions_inputFingerprints, .ref a_transactions_inputOutputs, .ref a_transactions_inputSecrets, .ref a_transactions_inputLocks, .ref a_transactions_outputCounts, .ref a_transactions_outputLocks, .ref a_transactions_outputAmounts])), (a_plan, .inr (1, [.ref a_plan_parents, .ref a_plan_included])), (a_plan_included, .inr (5, [.ref a_plan_included_held, .int v_plan_included_size])), (a_plan_included_held, .inl (cI, 3, .inl f_plan_included_held))] := ⟨_, rfl⟩
  have hD : va_D A [(a_this, .inr (0, [.ref a_transactions, .ref a_blocks, .ref a_plan, .ref a_templatePlan, .ref a_dag, .ref a_orphans, .ref a_ledger, .ref a_pooled, .ref a_ahead])), (a_transactions, .inr (6, [.int v_transactions_made, .ref a_transactions_ids, .ref a_transactions_inputCounts, .ref a_transactions_inputSlots, .ref a_transactions_inputFingerprints, .ref a_transactions_inputOutputs, .ref a_transactions_inputSecrets, .ref a_transactions_inputLocks, .ref a_transactions_outputCounts, .ref a_transactions_outputLocks, .ref a_transactions_outputAmounts])), (a_plan, .inr (1, [.ref a_plan_parents, .ref a_plan_included])), (a_plan_included, .inr (5, [.ref a_plan_included_held, .int v_plan_included_size])), (a_plan_included_held, .inl (cI, 3, .inl f_plan_included_held))] := hA2 ▸ mo_self hD0
  have hS : va_S A s.heap s.heap [] := va_S.rf
  unfold m_bm_include at h
  refine lv_aload_n (pc := 0) hx hb d_bm_include_0 rfl (lv_at hl 0 rfl) ?_
  refine gf_bm_12 (pc := 1) hx hb hw hN hown hK hP 0 rfl rfl d_bm_include_1 ?_
  refine lv_iload_n (pc := 4) hx hb d_bm_include_4 rfl (lv_at hl 1 rfl) ?_
  obtain ⟨r5, hr5, h⟩ := mo_bd_e h
  refine mo_rV (pc := 5) (As := [.int x1]) (rest := []) (st1 := [.int r5]) ⟨hx, hb, hml, hown, hw⟩ (c_tr_has l D cI cL cZ a_transactions a_transactions_ids a_transactions_inputCounts a_transactions_inputSlots a_transactions_inputFingerprints a_transactions_inputOutputs a_transactions_inputSecrets a_transactions_inputLocks a_transactions_outputCounts a_transactions_outputLocks a_transactions_outputAmounts v_transactions_made x1 r5 hr5) (kV_bm_108 hw ⟨by decide, by decide⟩) (hP.sub [1] rfl) hK hN rfl rfl rfl hl.1 rfl rfl d_bm_include_5 rfl ?_
  refine lv_if_eq (pc := 8) (tgt := 29) hx hb d_bm_include_8 rfl (fun hc => ?_) (fun hc => ?_)
  · have h := mo_t hc h
    refine lv_iconst (pc := 29) (v := 0) hx hb d_bm_include_29 (by decide) ?_
    exact mo_retZm (mo_nz (by decide)) hx hb hr hlocks hQ hA2 h hP hS d_bm_include_30 rfl
  · have h := mo_f hc h
    refine lv_aload_n (pc := 11) hx hb d_bm_include_11 rfl (lv_at hl 0 rfl) ?_
    refine gf_bm_26 (pc := 12) hx hb hw hN hown hK hP 0 rfl rfl d_bm_include_12 ?_
    refine gf_bm_109 (pc := 15) hx hb hw hN hown hK hP 2 rfl rfl d_bm_include_15 ?_
    refine lv_iload_n (pc := 18) hx hb d_bm_include_18 rfl (lv_at hl 1 rfl) ?_
    obtain ⟨⟨r19, r19_0, r19_1⟩, hr19, h⟩ := mo_bd_e h
    try dsimp only at h
    refine mo_mV (pc := 19) (As := [.int x1]) (rest := []) (st1 := [.int r19]) ⟨hx, hb, hml, hown, hw⟩ (c_nu_addNew l D cI cL cZ a_plan_included a_plan_included_held v_plan_included_size f_plan_included_held 3 x1 (r19, r19_0, r19_1) hr19) (kV_bm_105 hw ⟨by decide, by decide⟩) hP hD hS hK hN [3, 4] [none, none, none, some 0, some 1] rfl rfl rfl rfl rfl rfl rfl hl.1 rfl rfl d_bm_include_19 rfl (fun H locs hP hD hS => ?_)
    have hP : va_P D cl [(a_this, .inr (0, [.ref a_transactions, .ref a_blocks, .ref a_plan, .ref a_templatePlan, .ref a_dag, .ref a_orphans, .ref a_ledger, .ref a_pooled, .ref a_ahead])), (a_transactions, .inr (6, [.int v_transactions_made, .ref a_transactions_ids, .ref a_transactions_inputCounts, .ref a_transactions_inputSlots, .ref a_transactions_inputFingerprints, .ref a_transactions_inputOutputs, .ref a_transactions_inputSecrets, .ref a_transactions_inputLocks, .ref a_transactions_outputCounts, .ref a_transactions_outputLocks, .ref a_transactions_outputAmounts])), (a_plan, .inr (1, [.ref a_plan_parents, .ref a_plan_included])), (a_plan_included, .inr (5, [.ref a_plan_included_held, .int r19_0])), (a_plan_included_held, .inl (cI, 3, .inl r19_1))] H := hP
    have hD : va_D A [(a_this, .inr (0, [.ref a_transactions, .ref a_blocks, .ref a_plan, .ref a_templatePlan, .ref a_dag, .ref a_orphans, .ref a_ledger, .ref a_pooled, .ref a_ahead])), (a_transactions, .inr (6, [.int v_transactions_made, .ref a_transactions_ids, .ref a_transactions_inputCounts, .ref a_transactions_inputSlots, .ref a_transactions_inputFingerprints, .ref a_transactions_inputOutputs, .ref a_transactions_inputSecrets, .ref a_transactions_inputLocks, .ref a_transactions_outputCounts, .ref a_transactions_outputLocks, .ref a_transactions_outputAmounts])), (a_plan, .inr (1, [.ref a_plan_parents, .ref a_plan_included])), (a_plan_included, .inr (5, [.ref a_plan_included_held, .int r19_0])), (a_plan_included_held, .inl (cI, 3, .inl r19_1))] := hD
    refine lv_if_eq (pc := 22) (tgt := 29) hx hb d_bm_include_22 rfl (fun hc => ?_) (fun hc => ?_)
    · have h := mo_t hc h
      refine lv_iconst (pc := 29) (v := 0) hx hb d_bm_include_29 (by decide) ?_
      exact mo_retZm (mo_nz (by decide)) hx hb hr hlocks hQ hA2 h hP hS d_bm_include_30 rfl
    · have h := mo_f hc h
      refine lv_iconst (pc := 25) (v := 1) hx hb d_bm_include_25 (by decide) ?_
      refine lv_goto (pc := 26) (tgt := 30) hx hb d_bm_include_26 rfl ?_
      exact mo_retZm (mo_nz (by decide)) hx hb hr hlocks hQ hA2 h hP hS d_bm_include_30 rfl
set_option maxRecDepth 100000 in
set_option maxHeartbeats 4000000 in
theorem c_bl_isFull (l : Launch) (D : va_G) (cI cL cZ : ClassId) (a_this : Nat) (a_parentCounts : Nat) (a_parents : Nat) (a_includedCounts : Nat) (a_included : Nat) (a_locks : Nat) (a_hashes : Nat) (v_made : Int32) (o : Int32) (h : m_bl_isFull v_made = some o) : Met l y_bl_isFull (Cond.code y_bl_isFull b_bl_isFull 1 (some .boolean) :: WG) rm_bl_isFull (va_Pc [.ref a_this] (mo_Pr D [(cI, .int), (cL, .long), (cZ, .boolean)] [(a_this, .inr (2, [.int v_made, .ref a_parentCounts, .ref a_parents, .ref a_includedCounts, .ref a_included, .ref a_locks, .ref a_hashes]))])) (mo_Qr (some (.int o))) 0 0 (fun _ => False) := by
  refine mo_start (by decide) (Nat.le_of_ble_eq_true rfl) ?_
  intro p e s m args below meth c hx hb hr hlocks hml hown hw hv ls hl Q hQ
  obtain ⟨hP, hK, hN⟩ := hv
  have hl : lv_has ls 1 [(0, .ref a_this)] := hl
  unfold m_bl_isFull at h
  refine lv_aload_n (pc := 0) hx hb d_bl_isFull_0 rfl (lv_at hl 0 rfl) ?_
  refine gf_bl_35 (pc := 1) hx hb hw hN hown hK hP 0 rfl rfl d_bl_isFull_1 ?_
  refine lv_bipush (pc := 4) (v := 60) hx hb d_bl_isFull_4 (by decide) ?_
  refine lv_icmp_ne (pc := 6) (tgt := 13) hx hb d_bl_isFull_6 rfl (fun hc => ?_) (fun hc => ?_)
  · have h := mo_f hc h
    refine lv_iconst (pc := 13) (v := 0) hx hb d_bl_isFull_13 (by decide) ?_
    exact mo_retZr (mo_nz (by decide)) hx hb hr hlocks hQ h d_bl_isFull_14
  · have h := mo_t hc h
    refine lv_iconst (pc := 9) (v := 1) hx hb d_bl_isFull_9 (by decide) ?_
    refine lv_goto (pc := 10) (tgt := 14) hx hb d_bl_isFull_10 rfl ?_
    exact mo_retZr (mo_nz (by decide)) hx hb hr hlocks hQ h d_bl_isFull_14
set_option maxRecDepth 100000 in
set_option maxHeartbeats 4000000 in
theorem c_bl_workedHash (l : Launch) (D : va_G) (cI cL cZ : ClassId) (x0 : Int32) (x1 : Int32) (o : Int32) (h : m_bl_workedHash x0 x1 = some o) : Met l y_bl_workedHash (Cond.code y_bl_workedHash b_bl_workedHash 4 (some .int) :: WG) rm_bl_workedHash (va_Pc [.int x0, .int x1] (mo_Pr D [(cI, .int), (cL, .long), (cZ, .boolean)] [])) (mo_Qr (some (.int o))) 0 0 (fun _ => False) := by
  refine mo_start (by decide) (Nat.le_of_ble_eq_true rfl) ?_
  intro p e s m args below meth c hx hb hr hlocks hml hown hw hv ls hl Q hQ
  obtain ⟨hP, hK, hN⟩ := hv
  have hl : lv_has ls 4 [(0, .int x0), (1, .int x1)] := hl
  unfold m_bl_workedHash at h
  refine lv_ldc (pc := 0) (v := 536870912) hx hb hown (hw _ wd_2_231) d_bl_workedHash_0 ?_
  refine lv_istore_n (pc := 2) (lv' := [(2, .int 536870912), (0, .int x0), (1, .int x1)]) hx hb d_bl_workedHash_2 rfl hl (by decide) rfl (fun ls hl => ?_)
  refine lv_iconst (pc := 3) (v := 0) hx hb d_bl_workedHash_3 (by decide) ?_
  refine lv_istore_n (pc := 4) (lv' := [(3, .int 0), (2, .int 536870912), (0, .int x0), (1, .int x1)]) hx hb d_bl_workedHash_4 rfl hl (by decide) rfl (fun ls hl => ?_)
  obtain ⟨w5, K5, eK5, hy5, hr5⟩ := mo_bd_k h
  have E5 : ∀ (y5_2 : Int32) (ls : Array Slot) (hl : lv_has ls 4 [(2, .int y5_2)]) (h : K5 y5_2 = some o), W p l e rm_bl_workedHash s m args below meth c s.heap [] 0 0 Q (F0 m 34 ls []) := by
    intro y5_2 ls hl h
    have h := mo_a1 eK5 h
    try dsimp only at h
    refine lv_iload_n (pc := 34) hx hb d_bl_workedHash_34 rfl (lv_at hl 0 rfl) ?_
    exact mo_retIr hx hb hr hlocks hQ h d_bl_workedHash_35
  exact mo_lp_i (step := (m_bl_workedHash_L5 x0 x1)) (o := w5) (fun (x : Int32 × Int32) => match x with | (z5_2, z5_3) => ∀ (ls : Array Slot) (hl : lv_has ls 4 [(0, .int x0), (1, .int x1), (2, .int z5_2), (3, .int z5_3)]), W p l e rm_bl_workedHash s m args below meth c s.heap [] 0 0 Q (F0 m 5 ls [])) (by
      rintro bk5 hb5 ⟨z5_2, z5_3⟩ h ls hl
      unfold m_bl_workedHash_L5 at h
      try dsimp only at h
      refine lv_iload_n (pc := 5) hx hb d_bl_workedHash_5 rfl (lv_at hl 3 rfl) ?_
      refine lv_bipush (pc := 6) (v := 40) hx hb d_bl_workedHash_6 (by decide) ?_
      refine lv_icmp_ge (pc := 8) (tgt := 34) hx hb d_bl_workedHash_8 rfl (fun hc => ?_) (fun hc => ?_)
      · have h := mo_t hc h
        exact E5 z5_2 _ (lv_sub hl [2] rfl) (by rw [Option.some.inj h]; exact hr5)
      · have h := mo_f hc h
        refine lv_iload_n (pc := 11) hx hb d_bl_workedHash_11 rfl (lv_at hl 2 rfl) ?_
        refine lv_ldc (pc := 12) (v := 536870912) hx hb hown (hw _ wd_2_231) d_bl_workedHash_12 ?_
        refine lv_icmp_lt (pc := 14) (tgt := 34) hx hb d_bl_workedHash_14 rfl (fun hc => ?_) (fun hc => ?_)
        · have h := mo_t hc h
          exact E5 z5_2 _ (lv_sub hl [2] rfl) (by rw [Option.some.inj h]; exact hr5)
        · have h := mo_f hc h
          refine lv_iload_n (pc := 17) hx hb d_bl_workedHash_17 rfl (lv_at hl 0 rfl) ?_
          refine lv_iload_n (pc := 18) hx hb d_bl_workedHash_18 rfl (lv_at hl 1 rfl) ?_
          refine lv_iload_n (pc := 19) hx hb d_bl_workedHash_19 rfl (lv_at hl 3 rfl) ?_
          refine lv_iadd (pc := 20) hx hb d_bl_workedHash_20 ?_
          obtain ⟨r21, hr21, h⟩ := mo_bd_e h
          refine mo_rSN (pc := 21) (As := [.int x0, .int (x1 + z5_3)]) (rest := []) (st1 := [.int r21]) ⟨hx, hb, hml, hown, hw⟩ (c_bm_mix l D cI cL cZ x0 (x1 + z5_3) r21 hr21) (kSN_bl_30 hw hN ⟨by decide, by decide⟩) mo_P0 hK hN rfl hl.1 rfl rfl d_bl_workedHash_21 rfl ?_
          refine lv_ldc (pc := 24) (v := 2147483647) hx hb hown (hw _ wd_1_81) d_bl_workedHash_24 ?_
          refine lv_iand (pc := 26) hx hb d_bl_workedHash_26 ?_
          refine lv_istore_n (pc := 27) (lv' := [(2, .int (r21 &&& 2147483647)), (0, .int x0), (1, .int x1), (3, .int z5_3)]) hx hb d_bl_workedHash_27 rfl hl (by decide) rfl (fun ls hl => ?_)
          refine lv_iinc (pc := 28) (k := 3) (v := z5_3 + 1) (lv' := [(3, .int (z5_3 + 1)), (2, .int (r21 &&& 2147483647)), (0, .int x0), (1, .int x1)]) hx hb d_bl_workedHash_28 hl rfl (mo_inc1 _) (by decide) rfl (fun ls hl => ?_)
          refine lv_goto (pc := 31) (tgt := 5) hx hb d_bl_workedHash_31 rfl ?_
          exact hb5 (r21 &&& 2147483647, z5_3 + 1) h _ (lv_sub hl [2, 3, 1, 0] rfl)
    ) _ _ hy5 _ (lv_sub hl [2, 3, 1, 0] rfl)
set_option maxRecDepth 100000 in
set_option maxHeartbeats 4000000 in
theorem c_bl_build (l : Launch) (D : va_G) (cI cL cZ : ClassId) (a_this : Nat) (a_p1 : Nat) (a_p1_parents : Nat) (a_p1_parents_held : Nat) (a_parents : Nat) (a_hashes : Nat) (a_p1_included : Nat) (a_p1_included_held : Nat) (a_included : Nat) (a_p2 : Nat) (a_p2_ids : Nat) (a_parentCounts : Nat) (a_includedCounts : Nat) (a_locks : Nat) (a_p2_inputCounts : Nat) (a_p2_inputSlots : Nat) (a_p2_inputFingerprints : Nat) (a_p2_inputOutputs : Nat) (a_p2_inputSecrets : Nat) (a_p2_inputLocks : Nat) (a_p2_outputCounts : Nat) (a_p2_outputLocks : Nat) (a_p2_outputAmounts : Nat) (v_made : Int32) (v_p1_parents_size : Int32) (v_p1_included_size : Int32) (v_p2_made : Int32) (f_p1_parents_held : Nat → Int32) (f_parents : Nat → Int32) (f_hashes : Nat → Int32) (f_p1_included_held : Nat → Int32) (f_included : Nat → Int32) (f_p2_ids : Nat → Int32) (f_parentCounts : Nat → Int32) (f_includedCounts : Nat → Int32) (f_locks : Nat → Int32) (x3 : Int32) (x4 : Int32) (o : Int32 × Int32 × (Nat → Int32) × (Nat → Int32) × (Nat → Int32) × (Nat → Int32) × (Nat → Int32) × (Nat → Int32)) (h : m_bl_build v_made v_p1_parents_size f_p1_parents_held f_parents f_hashes v_p1_included_size f_p1_included_held f_included f_p2_ids f_parentCounts f_includedCounts f_locks x3 x4 = some o) : Met l y_bl_build (Cond.code y_bl_build b_bl_build 9 (some .int) :: WG) rm_bl_build (va_Pc [.ref a_this, .ref a_p1, .ref a_p2, .int x3, .int x4] (mo_Pm D [(cI, .int), (cL, .long), (cZ, .boolean)] [(a_this, .inr (2, [.int v_made, .ref a_parentCounts, .ref a_parents, .ref a_includedCounts, .ref a_included, .ref a_locks, .ref a_hashes])), (a_p1, .inr (1, [.ref a_p1_parents, .ref a_p1_included])), (a_p1_parents, .inr (5, [.ref a_p1_parents_held, .int v_p1_parents_size])), (a_p1_parents_held, .inl (cI, 4, .inl f_p1_parents_held)), (a_parents, .inl (cI, 240, .inl f_parents)), (a_hashes, .inl (cI, 60, .inl f_hashes)), (a_p1_included, .inr (5, [.ref a_p1_included_held, .int v_p1_included_size])), (a_p1_included_held, .inl (cI, 3, .inl f_p1_included_held)), (a_included, .inl (cI, 180, .inl f_included)), (a_p2, .inr (6, [.int v_p2_made, .ref a_p2_ids, .ref a_p2_inputCounts, .ref a_p2_inputSlots, .ref a_p2_inputFingerprints, .ref a_p2_inputOutputs, .ref a_p2_inputSecrets, .ref a_p2_inputLocks, .ref a_p2_outputCounts, .ref a_p2_outputLocks, .ref a_p2_outputAmounts])), (a_p2_ids, .inl (cI, 41, .inl f_p2_ids)), (a_parentCounts, .inl (cI, 60, .inl f_parentCounts)), (a_includedCounts, .inl (cI, 60, .inl f_includedCounts)), (a_locks, .inl (cI, 60, .inl f_locks))])) (mo_Qm D [(a_this, .inr (2, [.int v_made, .ref a_parentCounts, .ref a_parents, .ref a_includedCounts, .ref a_included, .ref a_locks, .ref a_hashes])), (a_p1, .inr (1, [.ref a_p1_parents, .ref a_p1_included])), (a_p1_parents, .inr (5, [.ref a_p1_parents_held, .int v_p1_parents_size])), (a_p1_parents_held, .inl (cI, 4, .inl f_p1_parents_held)), (a_parents, .inl (cI, 240, .inl f_parents)), (a_hashes, .inl (cI, 60, .inl f_hashes)), (a_p1_included, .inr (5, [.ref a_p1_included_held, .int v_p1_included_size])), (a_p1_included_held, .inl (cI, 3, .inl f_p1_included_held)), (a_included, .inl (cI, 180, .inl f_included)), (a_p2, .inr (6, [.int v_p2_made, .ref a_p2_ids, .ref a_p2_inputCounts, .ref a_p2_inputSlots, .ref a_p2_inputFingerprints, .ref a_p2_inputOutputs, .ref a_p2_inputSecrets, .ref a_p2_inputLocks, .ref a_p2_outputCounts, .ref a_p2_outputLocks, .ref a_p2_outputAmounts])), (a_p2_ids, .inl (cI, 41, .inl f_p2_ids)), (a_parentCounts, .inl (cI, 60, .inl f_parentCounts)), (a_includedCounts, .inl (cI, 60, .inl f_includedCounts)), (a_locks, .inl (cI, 60, .inl f_locks))] (fun (o : Int32 × Int32 × (Nat → Int32) × (Nat → Int32) × (Nat → Int32) × (Nat → Int32) × (Nat → Int32) × (Nat → Int32)) => [(a_this, .inr (2, [.int o.2.1, .ref a_parentCounts, .ref a_parents, .ref a_includedCounts, .ref a_included, .ref a_locks, .ref a_hashes])), (a_p1, .inr (1, [.ref a_p1_parents, .ref a_p1_included])), (a_p1_parents, .inr (5, [.ref a_p1_parents_held, .int v_p1_parents_size])), (a_p1_parents_held, .inl (cI, 4, .inl f_p1_parents_held)), (a_parents, .inl (cI, 240, .inl o.2.2.1)), (a_hashes, .inl (cI, 60, .inl o.2.2.2.1)), (a_p1_included, .inr (5, [.ref a_p1_included_held, .int v_p1_included_size])), (a_p1_included_held, .inl (cI, 3, .inl f_p1_included_held)), (a_included, .inl (cI, 180, .inl o.2.2.2.2.1)), (a_p2, .inr (6, [.int v_p2_made, .ref a_p2_ids, .ref a_p2_inputCounts, .ref a_p2_inputSlots, .ref a_p2_inputFingerprints, .ref a_p2_inputOutputs, .ref a_p2_inputSecrets, .ref a_p2_inputLocks, .ref a_p2_outputCounts, .ref a_p2_outputLocks, .ref a_p2_outputAmounts])), (a_p2_ids, .inl (cI, 41, .inl f_p2_ids)), (a_parentCounts, .inl (cI, 60, .inl o.2.2.2.2.2.1)), (a_includedCounts, .inl (cI, 60, .inl o.2.2.2.2.2.2.1)), (a_locks, .inl (cI, 60, .inl o.2.2.2.2.2.2.2))]) (fun (o : Int32 × Int32 × (Nat → Int32) × (Nat → Int32) × (Nat → Int32) × (Nat → Int32) × (Nat → Int32) × (Nat → Int32)) => (some (.int o.1))) o) 0 0 (mo_A [(a_this, .inr (2, [.int v_made, .ref a_parentCounts, .ref a_parents, .ref a_includedCounts, .ref a_included, .ref a_locks, .ref a_hashes])), (a_p1, .inr (1, [.ref a_p1_parents, .ref a_p1_included])), (a_p1_parents, .inr (5, [.ref a_p1_parents_held, .int v_p1_parents_size])), (a_p1_parents_held, .inl (cI, 4, .inl f_p1_parents_held)), (a_parents, .inl (cI, 240, .inl f_parents)), (a_hashes, .inl (cI, 60, .inl f_hashes)), (a_p1_included, .inr (5, [.ref a_p1_included_held, .int v_p1_included_size])), (a_p1_included_held, .inl (cI, 3, .inl f_p1_included_held)), (a_included, .inl (cI, 180, .inl f_included)), (a_p2, .inr (6, [.int v_p2_made, .ref a_p2_ids, .ref a_p2_inputCounts, .ref a_p2_inputSlots, .ref a_p2_inputFingerprints, .ref a_p2_inputOutputs, .ref a_p2_inputSecrets, .ref a_p2_inputLocks, .ref a_p2_outputCounts, .ref a_p2_outputLocks, .ref a_p2_outputAmounts])), (a_p2_ids, .inl (cI, 41, .inl f_p2_ids)), (a_parentCounts, .inl (cI, 60, .inl f_parentCounts)), (a_includedCounts, .inl (cI, 60, .inl f_includedCounts)), (a_locks, .inl (cI, 60, .inl f_locks))]) := by
  refine mo_start (by decide) (Nat.le_of_ble_eq_true rfl) ?_
  intro p e s m args below meth c hx hb hr hlocks hml hown hw hv ls hl Q hQ
  obtain ⟨hP, hK, hN, hD0⟩ := hv
  have hl : lv_has ls 9 [(0, .ref a_this), (1, .ref a_p1), (2, .ref a_p2), (3, .int x3), (4, .int x4)] := hl
  obtain ⟨A, hA2⟩ : ∃ A, A = mo_A [(a_this, .inr (2, [.int v_made, .ref a_parentCounts, .ref a_parents, .ref a_includedCounts, .ref a_included, .ref a_locks, .ref a_hashes])), (a_p1, .inr (1, [.ref a_p1_parents, .ref a_p1_included])), (a_p1_parents, .inr (5, [.ref a_p1_parents_held, .int v_p1_parents_size])), (a_p1_parents_held, .inl (cI, 4, .inl f_p1_parents_held)), (a_parents, .inl (cI, 240, .inl f_parents)), (a_hashes, .inl (cI, 60, .inl f_hashes)), (a_p1_included, .inr (5, [.ref a_p1_included_held, .int v_p1_included_size])), (a_p1_included_held, .inl (cI, 3, .inl f_p1_included_held)), (a_included, .inl (cI, 180, .inl f_included)), (a_p2, .inr (6, [.int v_p2_made, .ref a_p2_ids, .ref a_p2_inputCounts, .ref a_p2_inputSlots, .ref a_p2_inputFingerprints, .ref a_p2_inputOutputs, .ref a_p2_inputSecrets, .ref a_p2_inputLocks, .ref a_p2_outputCounts, .ref a_p2_outputLocks, .ref a_p2_outputAmounts])), (a_p2_ids, .inl (cI, 41, .inl f_p2_ids)), (a_parentCounts, .inl (cI, 60, .inl f_parentCounts)), (a_includedCounts, .inl (cI, 60, .inl f_includedCounts)), (a_locks, .inl (cI, 60, .inl f_locks))] := ⟨_, rfl⟩
  have hD : va_D A [(a_this, .inr (2, [.int v_made, .ref a_parentCounts, .ref a_parents, .ref a_includedCounts, .ref a_included, .ref a_locks, .ref a_hashes])), (a_p1, .inr (1, [.ref a_p1_parents, .ref a_p1_included])), (a_p1_parents, .inr (5, [.ref a_p1_parents_held, .int v_p1_parents_size])), (a_p1_parents_held, .inl (cI, 4, .inl f_p1_parents_held)), (a_parents, .inl (cI, 240, .inl f_parents)), (a_hashes, .inl (cI, 60, .inl f_hashes)), (a_p1_included, .inr (5, [.ref a_p1_included_held, .int v_p1_included_size])), (a_p1_included_held, .inl (cI, 3, .inl f_p1_included_held)), (a_included, .inl (cI, 180, .inl f_included)), (a_p2, .inr (6, [.int v_p2_made, .ref a_p2_ids, .ref a_p2_inputCounts, .ref a_p2_inputSlots, .ref a_p2_inputFingerprints, .ref a_p2_inputOutputs, .ref a_p2_inputSecrets, .ref a_p2_inputLocks, .ref a_p2_outputCounts, .ref a_p2_outputLocks, .ref a_p2_outputAmounts])), (a_p2_ids, .inl (cI, 41, .inl f_p2_ids)), (a_parentCounts, .inl (cI, 60, .inl f_parentCounts)), (a_includedCounts, .inl (cI, 60, .inl f_includedCounts)), (a_locks, .inl (cI, 60, .inl f_locks))] := hA2 ▸ mo_self hD0
  have hS : va_S A s.heap s.heap [] := va_S.rf
  unfold m_bl_build at h
  refine lv_aload_n (pc := 0) hx hb d_bl_build_0 rfl (lv_at hl 0 rfl) ?_
  refine gf_bl_35 (pc := 1) hx hb hw hN hown hK hP 0 rfl rfl d_bl_build_1 ?_
  refine lv_istore (pc := 4) (lv' := [(5, .int v_made), (0, .ref a_this), (1, .ref a_p1), (2, .ref a_p2), (3, .int x3), (4, .int x4)]) hx hb d_bl_build_4 hl (by decide) rfl (fun ls hl => ?_)
  refine lv_bipush (pc := 6) (v := 13) hx hb d_bl_build_6 (by decide) ?_
  refine lv_istore (pc := 8) (lv' := [(6, .int 13), (5, .int v_made), (0, .ref a_this), (1, .ref a_p1), (2, .ref a_p2), (3, .int x3), (4, .int x4)]) hx hb d_bl_build_8 hl (by decide) rfl (fun ls hl => ?_)
  refine lv_iconst (pc := 10) (v := 0) hx hb d_bl_build_10 (by decide) ?_
  refine lv_istore (pc := 11) (lv' := [(7, .int 0), (6, .int 13), (5, .int v_made), (0, .ref a_this), (1, .ref a_p1), (2, .ref a_p2), (3, .int x3), (4, .int x4)]) hx hb d_bl_build_11 hl (by decide) rfl (fun ls hl => ?_)
  obtain ⟨w13, K13, eK13, hy13, hr13⟩ := mo_bd_k h
  have E13 : ∀ (y13_6 : Int32) (y13_f_parents : Nat → Int32) (ls : Array Slot) (H : Heap) (locs : List Loc) (hP : va_P D cl [(a_this, .inr (2, [.int v_made, .ref a_parentCounts, .ref a_parents, .ref a_includedCounts, .ref a_included, .ref a_locks, .ref a_hashes])), (a_p1, .inr (1, [.ref a_p1_parents, .ref a_p1_included])), (a_p1_parents, .inr (5, [.ref a_p1_parents_held, .int v_p1_parents_size])), (a_p1_parents_held, .inl (cI, 4, .inl f_p1_parents_held)), (a_parents, .inl (cI, 240, .inl y13_f_parents)), (a_hashes, .inl (cI, 60, .inl f_hashes)), (a_p1_included, .inr (5, [.ref a_p1_included_held, .int v_p1_included_size])), (a_p1_included_held, .inl (cI, 3, .inl f_p1_included_held)), (a_included, .inl (cI, 180, .inl f_included)), (a_p2, .inr (6, [.int v_p2_made, .ref a_p2_ids, .ref a_p2_inputCounts, .ref a_p2_inputSlots, .ref a_p2_inputFingerprints, .ref a_p2_inputOutputs, .ref a_p2_inputSecrets, .ref a_p2_inputLocks, .ref a_p2_outputCounts, .ref a_p2_outputLocks, .ref a_p2_outputAmounts])), (a_p2_ids, .inl (cI, 41, .inl f_p2_ids)), (a_parentCounts, .inl (cI, 60, .inl f_parentCounts)), (a_includedCounts, .inl (cI, 60, .inl f_includedCounts)), (a_locks, .inl (cI, 60, .inl f_locks))] H) (hD : va_D A [(a_this, .inr (2, [.int v_made, .ref a_parentCounts, .ref a_parents, .ref a_includedCounts, .ref a_included, .ref a_locks, .ref a_hashes])), (a_p1, .inr (1, [.ref a_p1_parents, .ref a_p1_included])), (a_p1_parents, .inr (5, [.ref a_p1_parents_held, .int v_p1_parents_size])), (a_p1_parents_held, .inl (cI, 4, .inl f_p1_parents_held)), (a_parents, .inl (cI, 240, .inl y13_f_parents)), (a_hashes, .inl (cI, 60, .inl f_hashes)), (a_p1_included, .inr (5, [.ref a_p1_included_held, .int v_p1_included_size])), (a_p1_included_held, .inl (cI, 3, .inl f_p1_included_held)), (a_included, .inl (cI, 180, .inl f_included)), (a_p2, .inr (6, [.int v_p2_made, .ref a_p2_ids, .ref a_p2_inputCounts, .ref a_p2_inputSlots, .ref a_p2_inputFingerprints, .ref a_p2_inputOutputs, .ref a_p2_inputSecrets, .ref a_p2_inputLocks, .ref a_p2_outputCounts, .ref a_p2_outputLocks, .ref a_p2_outputAmounts])), (a_p2_ids, .inl (cI, 41, .inl f_p2_ids)), (a_parentCounts, .inl (cI, 60, .inl f_parentCounts)), (a_includedCounts, .inl (cI, 60, .inl f_includedCounts)), (a_locks, .inl (cI, 60, .inl f_locks))]) (hS : va_S A s.heap H locs) (hl : lv_has ls 9 [(0, .ref a_this), (1, .ref a_p1), (2, .ref a_p2), (3, .int x3), (4, .int x4), (5, .int v_made), (6, .int y13_6)]) (h : K13 (y13_6, y13_f_parents) = some o), W p l e rm_bl_build s m args below meth c H locs 0 0 Q (F0 m 70 ls []) := by
    intro y13_6 y13_f_parents ls H locs hP hD hS hl h
    have h := mo_a1 eK13 h
    try dsimp only at h
    refine lv_iconst (pc := 70) (v := 0) hx hb d_bl_build_70 (by decide) ?_
    refine lv_istore (pc := 71) (lv' := [(7, .int 0), (0, .ref a_this), (1, .ref a_p1), (2, .ref a_p2), (3, .int x3), (4, .int x4), (5, .int v_made), (6, .int y13_6)]) hx hb d_bl_build_71 hl (by decide) rfl (fun ls hl => ?_)
    obtain ⟨w73, K73, eK73, hy73, hr73⟩ := mo_bd_k h
    have E73 : ∀ (y73_6 : Int32) (y73_f_included : Nat → Int32) (ls : Array Slot) (H : Heap) (locs : List Loc) (hP : va_P D cl [(a_this, .inr (2, [.int v_made, .ref a_parentCounts, .ref a_parents, .ref a_includedCounts, .ref a_included, .ref a_locks, .ref a_hashes])), (a_p1, .inr (1, [.ref a_p1_parents, .ref a_p1_included])), (a_p1_parents, .inr (5, [.ref a_p1_parents_held, .int v_p1_parents_size])), (a_p1_parents_held, .inl (cI, 4, .inl f_p1_parents_held)), (a_parents, .inl (cI, 240, .inl y13_f_parents)), (a_hashes, .inl (cI, 60, .inl f_hashes)), (a_p1_included, .inr (5, [.ref a_p1_included_held, .int v_p1_included_size])), (a_p1_included_held, .inl (cI, 3, .inl f_p1_included_held)), (a_included, .inl (cI, 180, .inl y73_f_included)), (a_p2, .inr (6, [.int v_p2_made, .ref a_p2_ids, .ref a_p2_inputCounts, .ref a_p2_inputSlots, .ref a_p2_inputFingerprints, .ref a_p2_inputOutputs, .ref a_p2_inputSecrets, .ref a_p2_inputLocks, .ref a_p2_outputCounts, .ref a_p2_outputLocks, .ref a_p2_outputAmounts])), (a_p2_ids, .inl (cI, 41, .inl f_p2_ids)), (a_parentCounts, .inl (cI, 60, .inl f_parentCounts)), (a_includedCounts, .inl (cI, 60, .inl f_includedCounts)), (a_locks, .inl (cI, 60, .inl f_locks))] H) (hD : va_D A [(a_this, .inr (2, [.int v_made, .ref a_parentCounts, .ref a_parents, .ref a_includedCounts, .ref a_included, .ref a_locks, .ref a_hashes])), (a_p1, .inr (1, [.ref a_p1_parents, .ref a_p1_included])), (a_p1_parents, .inr (5, [.ref a_p1_parents_held, .int v_p1_parents_size])), (a_p1_parents_held, .inl (cI, 4, .inl f_p1_parents_held)), (a_parents, .inl (cI, 240, .inl y13_f_parents)), (a_hashes, .inl (cI, 60, .inl f_hashes)), (a_p1_included, .inr (5, [.ref a_p1_included_held, .int v_p1_included_size])), (a_p1_included_held, .inl (cI, 3, .inl f_p1_included_held)), (a_included, .inl (cI, 180, .inl y73_f_included)), (a_p2, .inr (6, [.int v_p2_made, .ref a_p2_ids, .ref a_p2_inputCounts, .ref a_p2_inputSlots, .ref a_p2_inputFingerprints, .ref a_p2_inputOutputs, .ref a_p2_inputSecrets, .ref a_p2_inputLocks, .ref a_p2_outputCounts, .ref a_p2_outputLocks, .ref a_p2_outputAmounts])), (a_p2_ids, .inl (cI, 41, .inl f_p2_ids)), (a_parentCounts, .inl (cI, 60, .inl f_parentCounts)), (a_includedCounts, .inl (cI, 60, .inl f_includedCounts)), (a_locks, .inl (cI, 60, .inl f_locks))]) (hS : va_S A s.heap H locs) (hl : lv_has ls 9 [(0, .ref a_this), (1, .ref a_p1), (3, .int x3), (4, .int x4), (5, .int v_made), (6, .int y73_6)]) (h : K73 (y73_6, y73_f_included) = some o), W p l e rm_bl_build s m args below meth c H locs 0 0 Q (F0 m 130 ls []) := by
      intro y73_6 y73_f_included ls H locs hP hD hS hl h
      have h := mo_a1 eK73 h
      try dsimp only at h
      refine lv_aload_n (pc := 130) hx hb d_bl_build_130 rfl (lv_at hl 0 rfl) ?_
      refine gf_bl_9 (pc := 131) hx hb hw hN hown hK hP 0 rfl rfl d_bl_build_131 ?_
      refine lv_iload (pc := 134) hx hb d_bl_build_134 (lv_at hl 4 rfl) ?_
      refine lv_aload_n (pc := 136) hx hb d_bl_build_136 rfl (lv_at hl 1 rfl) ?_
      refine gf_bl_47 (pc := 137) hx hb hw hN hown hK hP 1 rfl rfl d_bl_build_137 ?_
      refine gf_bl_52 (pc := 140) hx hb hw hN hown hK hP 2 rfl rfl d_bl_build_140 ?_
      obtain ⟨g143, hi143, e143, h⟩ := mo_wI_e h
      refine mo_iast (pc := 143) hx hb hK hP hD hS 11 0 rfl rfl hi143 e143 d_bl_build_143 (fun H locs hP hD hS => ?_)
      have hP : va_P D cl [(a_this, .inr (2, [.int v_made, .ref a_parentCounts, .ref a_parents, .ref a_includedCounts, .ref a_included, .ref a_locks, .ref a_hashes])), (a_p1, .inr (1, [.ref a_p1_parents, .ref a_p1_included])), (a_p1_parents, .inr (5, [.ref a_p1_parents_held, .int v_p1_parents_size])), (a_p1_parents_held, .inl (cI, 4, .inl f_p1_parents_held)), (a_parents, .inl (cI, 240, .inl y13_f_parents)), (a_hashes, .inl (cI, 60, .inl f_hashes)), (a_p1_included, .inr (5, [.ref a_p1_included_held, .int v_p1_included_size])), (a_p1_included_held, .inl (cI, 3, .inl f_p1_included_held)), (a_included, .inl (cI, 180, .inl y73_f_included)), (a_p2, .inr (6, [.int v_p2_made, .ref a_p2_ids, .ref a_p2_inputCounts, .ref a_p2_inputSlots, .ref a_p2_inputFingerprints, .ref a_p2_inputOutputs, .ref a_p2_inputSecrets, .ref a_p2_inputLocks, .ref a_p2_outputCounts, .ref a_p2_outputLocks, .ref a_p2_outputAmounts])), (a_p2_ids, .inl (cI, 41, .inl f_p2_ids)), (a_parentCounts, .inl (cI, 60, .inl g143)), (a_includedCounts, .inl (cI, 60, .inl f_includedCounts)), (a_locks, .inl (cI, 60, .inl f_locks))] H := hP
      have hD : va_D A [(a_this, .inr (2, [.int v_made, .ref a_parentCounts, .ref a_parents, .ref a_includedCounts, .ref a_included, .ref a_locks, .ref a_hashes])), (a_p1, .inr (1, [.ref a_p1_parents, .ref a_p1_included])), (a_p1_parents, .inr (5, [.ref a_p1_parents_held, .int v_p1_parents_size])), (a_p1_parents_held, .inl (cI, 4, .inl f_p1_parents_held)), (a_parents, .inl (cI, 240, .inl y13_f_parents)), (a_hashes, .inl (cI, 60, .inl f_hashes)), (a_p1_included, .inr (5, [.ref a_p1_included_held, .int v_p1_included_size])), (a_p1_included_held, .inl (cI, 3, .inl f_p1_included_held)), (a_included, .inl (cI, 180, .inl y73_f_included)), (a_p2, .inr (6, [.int v_p2_made, .ref a_p2_ids, .ref a_p2_inputCounts, .ref a_p2_inputSlots, .ref a_p2_inputFingerprints, .ref a_p2_inputOutputs, .ref a_p2_inputSecrets, .ref a_p2_inputLocks, .ref a_p2_outputCounts, .ref a_p2_outputLocks, .ref a_p2_outputAmounts])), (a_p2_ids, .inl (cI, 41, .inl f_p2_ids)), (a_parentCounts, .inl (cI, 60, .inl g143)), (a_includedCounts, .inl (cI, 60, .inl f_includedCounts)), (a_locks, .inl (cI, 60, .inl f_locks))] := hD
      refine lv_aload_n (pc := 144) hx hb d_bl_build_144 rfl (lv_at hl 0 rfl) ?_
      refine gf_bl_18 (pc := 145) hx hb hw hN hown hK hP 0 rfl rfl d_bl_build_145 ?_
      refine lv_iload (pc := 148) hx hb d_bl_build_148 (lv_at hl 4 rfl) ?_
      refine lv_aload_n (pc := 150) hx hb d_bl_build_150 rfl (lv_at hl 1 rfl) ?_
      refine gf_bl_61 (pc := 151) hx hb hw hN hown hK hP 1 rfl rfl d_bl_build_151 ?_
      refine gf_bl_52 (pc := 154) hx hb hw hN hown hK hP 6 rfl rfl d_bl_build_154 ?_
      obtain ⟨g157, hi157, e157, h⟩ := mo_wI_e h
      refine mo_iast (pc := 157) hx hb hK hP hD hS 12 0 rfl rfl hi157 e157 d_bl_build_157 (fun H locs hP hD hS => ?_)
      have hP : va_P D cl [(a_this, .inr (2, [.int v_made, .ref a_parentCounts, .ref a_parents, .ref a_includedCounts, .ref a_included, .ref a_locks, .ref a_hashes])), (a_p1, .inr (1, [.ref a_p1_parents, .ref a_p1_included])), (a_p1_parents, .inr (5, [.ref a_p1_parents_held, .int v_p1_parents_size])), (a_p1_parents_held, .inl (cI, 4, .inl f_p1_parents_held)), (a_parents, .inl (cI, 240, .inl y13_f_parents)), (a_hashes, .inl (cI, 60, .inl f_hashes)), (a_p1_included, .inr (5, [.ref a_p1_included_held, .int v_p1_included_size])), (a_p1_included_held, .inl (cI, 3, .inl f_p1_included_held)), (a_included, .inl (cI, 180, .inl y73_f_included)), (a_p2, .inr (6, [.int v_p2_made, .ref a_p2_ids, .ref a_p2_inputCounts, .ref a_p2_inputSlots, .ref a_p2_inputFingerprints, .ref a_p2_inputOutputs, .ref a_p2_inputSecrets, .ref a_p2_inputLocks, .ref a_p2_outputCounts, .ref a_p2_outputLocks, .ref a_p2_outputAmounts])), (a_p2_ids, .inl (cI, 41, .inl f_p2_ids)), (a_parentCounts, .inl (cI, 60, .inl g143)), (a_includedCounts, .inl (cI, 60, .inl g157)), (a_locks, .inl (cI, 60, .inl f_locks))] H := hP
      have hD : va_D A [(a_this, .inr (2, [.int v_made, .ref a_parentCounts, .ref a_parents, .ref a_includedCounts, .ref a_included, .ref a_locks, .ref a_hashes])), (a_p1, .inr (1, [.ref a_p1_parents, .ref a_p1_included])), (a_p1_parents, .inr (5, [.ref a_p1_parents_held, .int v_p1_parents_size])), (a_p1_parents_held, .inl (cI, 4, .inl f_p1_parents_held)), (a_parents, .inl (cI, 240, .inl y13_f_parents)), (a_hashes, .inl (cI, 60, .inl f_hashes)), (a_p1_included, .inr (5, [.ref a_p1_included_held, .int v_p1_included_size])), (a_p1_included_held, .inl (cI, 3, .inl f_p1_included_held)), (a_included, .inl (cI, 180, .inl y73_f_included)), (a_p2, .inr (6, [.int v_p2_made, .ref a_p2_ids, .ref a_p2_inputCounts, .ref a_p2_inputSlots, .ref a_p2_inputFingerprints, .ref a_p2_inputOutputs, .ref a_p2_inputSecrets, .ref a_p2_inputLocks, .ref a_p2_outputCounts, .ref a_p2_outputLocks, .ref a_p2_outputAmounts])), (a_p2_ids, .inl (cI, 41, .inl f_p2_ids)), (a_parentCounts, .inl (cI, 60, .inl g143)), (a_includedCounts, .inl (cI, 60, .inl g157)), (a_locks, .inl (cI, 60, .inl f_locks))] := hD
      refine lv_aload_n (pc := 158) hx hb d_bl_build_158 rfl (lv_at hl 0 rfl) ?_
      refine gf_bl_24 (pc := 159) hx hb hw hN hown hK hP 0 rfl rfl d_bl_build_159 ?_
      refine lv_iload (pc := 162) hx hb d_bl_build_162 (lv_at hl 4 rfl) ?_
      refine lv_iload_n (pc := 164) hx hb d_bl_build_164 rfl (lv_at hl 2 rfl) ?_
      obtain ⟨g165, hi165, e165, h⟩ := mo_wI_e h
      refine mo_iast (pc := 165) hx hb hK hP hD hS 13 0 rfl rfl hi165 e165 d_bl_build_165 (fun H locs hP hD hS => ?_)
      have hP : va_P D cl [(a_this, .inr (2, [.int v_made, .ref a_parentCounts, .ref a_parents, .ref a_includedCounts, .ref a_included, .ref a_locks, .ref a_hashes])), (a_p1, .inr (1, [.ref a_p1_parents, .ref a_p1_included])), (a_p1_parents, .inr (5, [.ref a_p1_parents_held, .int v_p1_parents_size])), (a_p1_parents_held, .inl (cI, 4, .inl f_p1_parents_held)), (a_parents, .inl (cI, 240, .inl y13_f_parents)), (a_hashes, .inl (cI, 60, .inl f_hashes)), (a_p1_included, .inr (5, [.ref a_p1_included_held, .int v_p1_included_size])), (a_p1_included_held, .inl (cI, 3, .inl f_p1_included_held)), (a_included, .inl (cI, 180, .inl y73_f_included)), (a_p2, .inr (6, [.int v_p2_made, .ref a_p2_ids, .ref a_p2_inputCounts, .ref a_p2_inputSlots, .ref a_p2_inputFingerprints, .ref a_p2_inputOutputs, .ref a_p2_inputSecrets, .ref a_p2_inputLocks, .ref a_p2_outputCounts, .ref a_p2_outputLocks, .ref a_p2_outputAmounts])), (a_p2_ids, .inl (cI, 41, .inl f_p2_ids)), (a_parentCounts, .inl (cI, 60, .inl g143)), (a_includedCounts, .inl (cI, 60, .inl g157)), (a_locks, .inl (cI, 60, .inl g165))] H := hP
      have hD : va_D A [(a_this, .inr (2, [.int v_made, .ref a_parentCounts, .ref a_parents, .ref a_includedCounts, .ref a_included, .ref a_locks, .ref a_hashes])), (a_p1, .inr (1, [.ref a_p1_parents, .ref a_p1_included])), (a_p1_parents, .inr (5, [.ref a_p1_parents_held, .int v_p1_parents_size])), (a_p1_parents_held, .inl (cI, 4, .inl f_p1_parents_held)), (a_parents, .inl (cI, 240, .inl y13_f_parents)), (a_hashes, .inl (cI, 60, .inl f_hashes)), (a_p1_included, .inr (5, [.ref a_p1_included_held, .int v_p1_included_size])), (a_p1_included_held, .inl (cI, 3, .inl f_p1_included_held)), (a_included, .inl (cI, 180, .inl y73_f_included)), (a_p2, .inr (6, [.int v_p2_made, .ref a_p2_ids, .ref a_p2_inputCounts, .ref a_p2_inputSlots, .ref a_p2_inputFingerprints, .ref a_p2_inputOutputs, .ref a_p2_inputSecrets, .ref a_p2_inputLocks, .ref a_p2_outputCounts, .ref a_p2_outputLocks, .ref a_p2_outputAmounts])), (a_p2_ids, .inl (cI, 41, .inl f_p2_ids)), (a_parentCounts, .inl (cI, 60, .inl g143)), (a_includedCounts, .inl (cI, 60, .inl g157)), (a_locks, .inl (cI, 60, .inl g165))] := hD
      refine lv_aload_n (pc := 166) hx hb d_bl_build_166 rfl (lv_at hl 0 rfl) ?_
      refine gf_bl_27 (pc := 167) hx hb hw hN hown hK hP 0 rfl rfl d_bl_build_167 ?_
      refine lv_iload (pc := 170) hx hb d_bl_build_170 (lv_at hl 4 rfl) ?_
      refine lv_iload (pc := 172) hx hb d_bl_build_172 (lv_at hl 5 rfl) ?_
      refine lv_iload_n (pc := 174) hx hb d_bl_build_174 rfl (lv_at hl 2 rfl) ?_
      obtain ⟨r175, hr175, h⟩ := mo_bd_e h
      refine mo_rSN (pc := 175) (As := [.int y73_6, .int x3]) (rest := [.int v_made, .ref a_hashes]) (st1 := [.int r175, .int v_made, .ref a_hashes]) ⟨hx, hb, hml, hown, hw⟩ (c_bm_mix l D cI cL cZ y73_6 x3 r175 hr175) (kSN_bl_30 hw hN ⟨by decide, by decide⟩) mo_P0 hK hN rfl hl.1 rfl rfl d_bl_build_175 rfl ?_
      refine lv_iload (pc := 178) hx hb d_bl_build_178 (lv_at hl 3 rfl) ?_
      obtain ⟨r180, hr180, h⟩ := mo_bd_e h
      refine mo_rS (pc := 180) (As := [.int r175, .int x4]) (rest := [.int v_made, .ref a_hashes]) (st1 := [.int r180, .int v_made, .ref a_hashes]) ⟨hx, hb, hml, hown, hw⟩ (c_bl_workedHash l D cI cL cZ r175 x4 r180 hr180) (kS_bl_68 hw ⟨by decide, by decide⟩) mo_P0 hK hN rfl hl.1 rfl rfl d_bl_build_180 rfl ?_
      obtain ⟨g183, hi183, e183, h⟩ := mo_wI_e h
      refine mo_iast (pc := 183) hx hb hK hP hD hS 5 0 rfl rfl hi183 e183 d_bl_build_183 (fun H locs hP hD hS => ?_)
      have hP : va_P D cl [(a_this, .inr (2, [.int v_made, .ref a_parentCounts, .ref a_parents, .ref a_includedCounts, .ref a_included, .ref a_locks, .ref a_hashes])), (a_p1, .inr (1, [.ref a_p1_parents, .ref a_p1_included])), (a_p1_parents, .inr (5, [.ref a_p1_parents_held, .int v_p1_parents_size])), (a_p1_parents_held, .inl (cI, 4, .inl f_p1_parents_held)), (a_parents, .inl (cI, 240, .inl y13_f_parents)), (a_hashes, .inl (cI, 60, .inl g183)), (a_p1_included, .inr (5, [.ref a_p1_included_held, .int v_p1_included_size])), (a_p1_included_held, .inl (cI, 3, .inl f_p1_included_held)), (a_included, .inl (cI, 180, .inl y73_f_included)), (a_p2, .inr (6, [.int v_p2_made, .ref a_p2_ids, .ref a_p2_inputCounts, .ref a_p2_inputSlots, .ref a_p2_inputFingerprints, .ref a_p2_inputOutputs, .ref a_p2_inputSecrets, .ref a_p2_inputLocks, .ref a_p2_outputCounts, .ref a_p2_outputLocks, .ref a_p2_outputAmounts])), (a_p2_ids, .inl (cI, 41, .inl f_p2_ids)), (a_parentCounts, .inl (cI, 60, .inl g143)), (a_includedCounts, .inl (cI, 60, .inl g157)), (a_locks, .inl (cI, 60, .inl g165))] H := hP
      have hD : va_D A [(a_this, .inr (2, [.int v_made, .ref a_parentCounts, .ref a_parents, .ref a_includedCounts, .ref a_included, .ref a_locks, .ref a_hashes])), (a_p1, .inr (1, [.ref a_p1_parents, .ref a_p1_included])), (a_p1_parents, .inr (5, [.ref a_p1_parents_held, .int v_p1_parents_size])), (a_p1_parents_held, .inl (cI, 4, .inl f_p1_parents_held)), (a_parents, .inl (cI, 240, .inl y13_f_parents)), (a_hashes, .inl (cI, 60, .inl g183)), (a_p1_included, .inr (5, [.ref a_p1_included_held, .int v_p1_included_size])), (a_p1_included_held, .inl (cI, 3, .inl f_p1_included_held)), (a_included, .inl (cI, 180, .inl y73_f_included)), (a_p2, .inr (6, [.int v_p2_made, .ref a_p2_ids, .ref a_p2_inputCounts, .ref a_p2_inputSlots, .ref a_p2_inputFingerprints, .ref a_p2_inputOutputs, .ref a_p2_inputSecrets, .ref a_p2_inputLocks, .ref a_p2_outputCounts, .ref a_p2_outputLocks, .ref a_p2_outputAmounts])), (a_p2_ids, .inl (cI, 41, .inl f_p2_ids)), (a_parentCounts, .inl (cI, 60, .inl g143)), (a_includedCounts, .inl (cI, 60, .inl g157)), (a_locks, .inl (cI, 60, .inl g165))] := hD
      refine lv_aload_n (pc := 184) hx hb d_bl_build_184 rfl (lv_at hl 0 rfl) ?_
      refine lv_dup (pc := 185) hx hb d_bl_build_185 rfl ?_
      refine gf_bl_35 (pc := 186) hx hb hw hN hown hK hP 0 rfl rfl d_bl_build_186 ?_
      refine lv_iconst (pc := 189) (v := 1) hx hb d_bl_build_189 (by decide) ?_
      refine lv_iadd (pc := 190) hx hb d_bl_build_190 ?_
      refine pf_bl_35 (pc := 191) hx hb hw hN hown hK hP hD hS 0 rfl (Nat.le_of_ble_eq_true rfl) d_bl_build_191 (fun H locs hP hD hS => ?_)
      have hP : va_P D cl [(a_this, .inr (2, [.int (v_made + 1), .ref a_parentCounts, .ref a_parents, .ref a_includedCounts, .ref a_included, .ref a_locks, .ref a_hashes])), (a_p1, .inr (1, [.ref a_p1_parents, .ref a_p1_included])), (a_p1_parents, .inr (5, [.ref a_p1_parents_held, .int v_p1_parents_size])), (a_p1_parents_held, .inl (cI, 4, .inl f_p1_parents_held)), (a_parents, .inl (cI, 240, .inl y13_f_parents)), (a_hashes, .inl (cI, 60, .inl g183)), (a_p1_included, .inr (5, [.ref a_p1_included_held, .int v_p1_included_size])), (a_p1_included_held, .inl (cI, 3, .inl f_p1_included_held)), (a_included, .inl (cI, 180, .inl y73_f_included)), (a_p2, .inr (6, [.int v_p2_made, .ref a_p2_ids, .ref a_p2_inputCounts, .ref a_p2_inputSlots, .ref a_p2_inputFingerprints, .ref a_p2_inputOutputs, .ref a_p2_inputSecrets, .ref a_p2_inputLocks, .ref a_p2_outputCounts, .ref a_p2_outputLocks, .ref a_p2_outputAmounts])), (a_p2_ids, .inl (cI, 41, .inl f_p2_ids)), (a_parentCounts, .inl (cI, 60, .inl g143)), (a_includedCounts, .inl (cI, 60, .inl g157)), (a_locks, .inl (cI, 60, .inl g165))] H := hP
      have hD : va_D A [(a_this, .inr (2, [.int (v_made + 1), .ref a_parentCounts, .ref a_parents, .ref a_includedCounts, .ref a_included, .ref a_locks, .ref a_hashes])), (a_p1, .inr (1, [.ref a_p1_parents, .ref a_p1_included])), (a_p1_parents, .inr (5, [.ref a_p1_parents_held, .int v_p1_parents_size])), (a_p1_parents_held, .inl (cI, 4, .inl f_p1_parents_held)), (a_parents, .inl (cI, 240, .inl y13_f_parents)), (a_hashes, .inl (cI, 60, .inl g183)), (a_p1_included, .inr (5, [.ref a_p1_included_held, .int v_p1_included_size])), (a_p1_included_held, .inl (cI, 3, .inl f_p1_included_held)), (a_included, .inl (cI, 180, .inl y73_f_included)), (a_p2, .inr (6, [.int v_p2_made, .ref a_p2_ids, .ref a_p2_inputCounts, .ref a_p2_inputSlots, .ref a_p2_inputFingerprints, .ref a_p2_inputOutputs, .ref a_p2_inputSecrets, .ref a_p2_inputLocks, .ref a_p2_outputCounts, .ref a_p2_outputLocks, .ref a_p2_outputAmounts])), (a_p2_ids, .inl (cI, 41, .inl f_p2_ids)), (a_parentCounts, .inl (cI, 60, .inl g143)), (a_includedCounts, .inl (cI, 60, .inl g157)), (a_locks, .inl (cI, 60, .inl g165))] := hD
      refine lv_iload (pc := 194) hx hb d_bl_build_194 (lv_at hl 4 rfl) ?_
      exact mo_retIm hx hb hr hlocks hQ hA2 h hP hS d_bl_build_196 rfl
    exact mo_lp_i (step := (m_bl_build_L73 v_made v_p1_included_size f_p1_included_held f_p2_ids)) (o := w73) (fun (x : Int32 × Int32 × (Nat → Int32)) => match x with | (z73_6, z73_7, z73_f_included) => ∀ (ls : Array Slot) (H : Heap) (locs : List Loc) (hP : va_P D cl [(a_this, .inr (2, [.int v_made, .ref a_parentCounts, .ref a_parents, .ref a_includedCounts, .ref a_included, .ref a_locks, .ref a_hashes])), (a_p1, .inr (1, [.ref a_p1_parents, .ref a_p1_included])), (a_p1_parents, .inr (5, [.ref a_p1_parents_held, .int v_p1_parents_size])), (a_p1_parents_held, .inl (cI, 4, .inl f_p1_parents_held)), (a_parents, .inl (cI, 240, .inl y13_f_parents)), (a_hashes, .inl (cI, 60, .inl f_hashes)), (a_p1_included, .inr (5, [.ref a_p1_included_held, .int v_p1_included_size])), (a_p1_included_held, .inl (cI, 3, .inl f_p1_included_held)), (a_included, .inl (cI, 180, .inl z73_f_included)), (a_p2, .inr (6, [.int v_p2_made, .ref a_p2_ids, .ref a_p2_inputCounts, .ref a_p2_inputSlots, .ref a_p2_inputFingerprints, .ref a_p2_inputOutputs, .ref a_p2_inputSecrets, .ref a_p2_inputLocks, .ref a_p2_outputCounts, .ref a_p2_outputLocks, .ref a_p2_outputAmounts])), (a_p2_ids, .inl (cI, 41, .inl f_p2_ids)), (a_parentCounts, .inl (cI, 60, .inl f_parentCounts)), (a_includedCounts, .inl (cI, 60, .inl f_includedCounts)), (a_locks, .inl (cI, 60, .inl f_locks))] H) (hD : va_D A [(a_this, .inr (2, [.int v_made, .ref a_parentCounts, .ref a_parents, .ref a_includedCounts, .ref a_included, .ref a_locks, .ref a_hashes])), (a_p1, .inr (1, [.ref a_p1_parents, .ref a_p1_included])), (a_p1_parents, .inr (5, [.ref a_p1_parents_held, .int v_p1_parents_size])), (a_p1_parents_held, .inl (cI, 4, .inl f_p1_parents_held)), (a_parents, .inl (cI, 240, .inl y13_f_parents)), (a_hashes, .inl (cI, 60, .inl f_hashes)), (a_p1_included, .inr (5, [.ref a_p1_included_held, .int v_p1_included_size])), (a_p1_included_held, .inl (cI, 3, .inl f_p1_included_held)), (a_included, .inl (cI, 180, .inl z73_f_included)), (a_p2, .inr (6, [.int v_p2_made, .ref a_p2_ids, .ref a_p2_inputCounts, .ref a_p2_inputSlots, .ref a_p2_inputFingerprints, .ref a_p2_inputOutputs, .ref a_p2_inputSecrets, .ref a_p2_inputLocks, .ref a_p2_outputCounts, .ref a_p2_outputLocks, .ref a_p2_outputAmounts])), (a_p2_ids, .inl (cI, 41, .inl f_p2_ids)), (a_parentCounts, .inl (cI, 60, .inl f_parentCounts)), (a_includedCounts, .inl (cI, 60, .inl f_includedCounts)), (a_locks, .inl (cI, 60, .inl f_locks))]) (hS : va_S A s.heap H locs) (hl : lv_has ls 9 [(0, .ref a_this), (1, .ref a_p1), (2, .ref a_p2), (3, .int x3), (4, .int x4), (5, .int v_made), (6, .int z73_6), (7, .int z73_7)]), W p l e rm_bl_build s m args below meth c H locs 0 0 Q (F0 m 73 ls [])) (by
        rintro bk73 hb73 ⟨z73_6, z73_7, z73_f_included⟩ h ls H locs hP hD hS hl
        unfold m_bl_build_L73 at h
        try dsimp only at h
        refine lv_iload (pc := 73) hx hb d_bl_build_73 (lv_at hl 7 rfl) ?_
        refine lv_aload_n (pc := 75) hx hb d_bl_build_75 rfl (lv_at hl 1 rfl) ?_
        refine gf_bl_61 (pc := 76) hx hb hw hN hown hK hP 1 rfl rfl d_bl_build_76 ?_
        refine gf_bl_52 (pc := 79) hx hb hw hN hown hK hP 6 rfl rfl d_bl_build_79 ?_
        refine lv_icmp_ge (pc := 82) (tgt := 130) hx hb d_bl_build_82 rfl (fun hc => ?_) (fun hc => ?_)
        · have h := mo_t hc h
          exact E73 z73_6 z73_f_included _ _ _ hP hD hS (lv_sub hl [0, 1, 3, 4, 5, 6] rfl) (by rw [Option.some.inj h]; exact hr73)
        · have h := mo_f hc h
          refine lv_aload_n (pc := 85) hx hb d_bl_build_85 rfl (lv_at hl 1 rfl) ?_
          refine gf_bl_61 (pc := 86) hx hb hw hN hown hK hP 1 rfl rfl d_bl_build_86 ?_
          refine lv_iload (pc := 89) hx hb d_bl_build_89 (lv_at hl 7 rfl) ?_
          obtain ⟨r91, hr91, h⟩ := mo_bd_e h
          refine mo_rV (pc := 91) (As := [.int z73_7]) (rest := []) (st1 := [.int r91]) ⟨hx, hb, hml, hown, hw⟩ (c_nu_at l D cI cL cZ a_p1_included a_p1_included_held v_p1_included_size f_p1_included_held 3 z73_7 r91 hr91) (kV_bl_57 hw ⟨by decide, by decide⟩) (hP.sub [6, 7] rfl) hK hN rfl rfl rfl hl.1 rfl rfl d_bl_build_91 rfl ?_
          refine lv_istore (pc := 94) (lv' := [(8, .int r91), (0, .ref a_this), (1, .ref a_p1), (2, .ref a_p2), (3, .int x3), (4, .int x4), (5, .int v_made), (6, .int z73_6), (7, .int z73_7)]) hx hb d_bl_build_94 hl (by decide) rfl (fun ls hl => ?_)
          refine lv_aload_n (pc := 96) hx hb d_bl_build_96 rfl (lv_at hl 1 rfl) ?_
          refine gf_bl_21 (pc := 97) hx hb hw hN hown hK hP 0 rfl rfl d_bl_build_97 ?_
          refine lv_iload (pc := 100) hx hb d_bl_build_100 (lv_at hl 6 rfl) ?_
          refine lv_iconst (pc := 102) (v := 3) hx hb d_bl_build_102 (by decide) ?_
          refine lv_imul (pc := 103) hx hb d_bl_build_103 ?_
          refine lv_iload (pc := 104) hx hb d_bl_build_104 (lv_at hl 8 rfl) ?_
          refine lv_iadd (pc := 106) hx hb d_bl_build_106 ?_
          refine lv_iload (pc := 107) hx hb d_bl_build_107 (lv_at hl 0 rfl) ?_
          obtain ⟨g109, hi109, e109, h⟩ := mo_wI_e h
          refine mo_iast (pc := 109) hx hb hK hP hD hS 8 0 rfl rfl hi109 e109 d_bl_build_109 (fun H locs hP hD hS => ?_)
          have hP : va_P D cl [(a_this, .inr (2, [.int v_made, .ref a_parentCounts, .ref a_parents, .ref a_includedCounts, .ref a_included, .ref a_locks, .ref a_hashes])), (a_p1, .inr (1, [.ref a_p1_parents, .ref a_p1_included])), (a_p1_parents, .inr (5, [.ref a_p1_parents_held, .int v_p1_parents_size])), (a_p1_parents_held, .inl (cI, 4, .inl f_p1_parents_held)), (a_parents, .inl (cI, 240, .inl y13_f_parents)), (a_hashes, .inl (cI, 60, .inl f_hashes)), (a_p1_included, .inr (5, [.ref a_p1_included_held, .int v_p1_included_size])), (a_p1_included_held, .inl (cI, 3, .inl f_p1_included_held)), (a_included, .inl (cI, 180, .inl g109)), (a_p2, .inr (6, [.int v_p2_made, .ref a_p2_ids, .ref a_p2_inputCounts, .ref a_p2_inputSlots, .ref a_p2_inputFingerprints, .ref a_p2_inputOutputs, .ref a_p2_inputSecrets, .ref a_p2_inputLocks, .ref a_p2_outputCounts, .ref a_p2_outputLocks, .ref a_p2_outputAmounts])), (a_p2_ids, .inl (cI, 41, .inl f_p2_ids)), (a_parentCounts, .inl (cI, 60, .inl f_parentCounts)), (a_includedCounts, .inl (cI, 60, .inl f_includedCounts)), (a_locks, .inl (cI, 60, .inl f_locks))] H := hP
          have hD : va_D A [(a_this, .inr (2, [.int v_made, .ref a_parentCounts, .ref a_parents, .ref a_includedCounts, .ref a_included, .ref a_locks, .ref a_hashes])), (a_p1, .inr (1, [.ref a_p1_parents, .ref a_p1_included])), (a_p1_parents, .inr (5, [.ref a_p1_parents_held, .int v_p1_parents_size])), (a_p1_parents_held, .inl (cI, 4, .inl f_p1_parents_held)), (a_parents, .inl (cI, 240, .inl y13_f_parents)), (a_hashes, .inl (cI, 60, .inl f_hashes)), (a_p1_included, .inr (5, [.ref a_p1_included_held, .int v_p1_included_size])), (a_p1_included_held, .inl (cI, 3, .inl f_p1_included_held)), (a_included, .inl (cI, 180, .inl g109)), (a_p2, .inr (6, [.int v_p2_made, .ref a_p2_ids, .ref a_p2_inputCounts, .ref a_p2_inputSlots, .ref a_p2_inputFingerprints, .ref a_p2_inputOutputs, .ref a_p2_inputSecrets, .ref a_p2_inputLocks, .ref a_p2_outputCounts, .ref a_p2_outputLocks, .ref a_p2_outputAmounts])), (a_p2_ids, .inl (cI, 41, .inl f_p2_ids)), (a_parentCounts, .inl (cI, 60, .inl f_parentCounts)), (a_includedCounts, .inl (cI, 60, .inl f_includedCounts)), (a_locks, .inl (cI, 60, .inl f_locks))] := hD
          refine lv_iload (pc := 110) hx hb d_bl_build_110 (lv_at hl 7 rfl) ?_
          refine lv_aload_n (pc := 112) hx hb d_bl_build_112 rfl (lv_at hl 3 rfl) ?_
          refine gf_bl_63 (pc := 113) hx hb hw hN hown hK hP 9 rfl rfl d_bl_build_113 ?_
          refine lv_iload (pc := 116) hx hb d_bl_build_116 (lv_at hl 0 rfl) ?_
          obtain ⟨v118, hi118, e118, h⟩ := mo_rI_e h
          refine mo_iald (pc := 118) hx hb hK hP 10 0 rfl rfl hi118 e118 d_bl_build_118 ?_
          obtain ⟨r119, hr119, h⟩ := mo_bd_e h
          refine mo_rSN (pc := 119) (As := [.int z73_6, .int v118]) (rest := []) (st1 := [.int r119]) ⟨hx, hb, hml, hown, hw⟩ (c_bm_mix l D cI cL cZ z73_6 v118 r119 hr119) (kSN_bl_30 hw hN ⟨by decide, by decide⟩) mo_P0 hK hN rfl hl.1 rfl rfl d_bl_build_119 rfl ?_
          refine lv_istore (pc := 122) (lv' := [(6, .int r119), (8, .int r91), (0, .ref a_this), (1, .ref a_p1), (2, .ref a_p2), (3, .int x3), (4, .int x4), (5, .int v_made), (7, .int z73_7)]) hx hb d_bl_build_122 hl (by decide) rfl (fun ls hl => ?_)
          refine lv_iinc (pc := 124) (k := 8) (v := z73_7 + 1) (lv' := [(7, .int (z73_7 + 1)), (6, .int r119), (8, .int r91), (0, .ref a_this), (1, .ref a_p1), (2, .ref a_p2), (3, .int x3), (4, .int x4), (5, .int v_made)]) hx hb d_bl_build_124 hl rfl (mo_inc1 _) (by decide) rfl (fun ls hl => ?_)
          refine lv_goto (pc := 127) (tgt := 73) hx hb d_bl_build_127 rfl ?_
          exact hb73 (r119, z73_7 + 1, g109) h _ _ _ hP hD hS (lv_sub hl [3, 4, 5, 6, 7, 8, 1, 0] rfl)
      ) _ _ hy73 _ _ _ hP hD hS (lv_sub hl [1, 2, 3, 4, 5, 6, 7, 0] rfl)
  exact mo_lp_i (step := (m_bl_build_L13 v_made v_p1_parents_size f_p1_parents_held f_hashes)) (o := w13) (fun (x : Int32 × Int32 × (Nat → Int32)) => match x with | (z13_6, z13_7, z13_f_parents) => ∀ (ls : Array Slot) (H : Heap) (locs : List Loc) (hP : va_P D cl [(a_this, .inr (2, [.int v_made, .ref a_parentCounts, .ref a_parents, .ref a_includedCounts, .ref a_included, .ref a_locks, .ref a_hashes])), (a_p1, .inr (1, [.ref a_p1_parents, .ref a_p1_included])), (a_p1_parents, .inr (5, [.ref a_p1_parents_held, .int v_p1_parents_size])), (a_p1_parents_held, .inl (cI, 4, .inl f_p1_parents_held)), (a_parents, .inl (cI, 240, .inl z13_f_parents)), (a_hashes, .inl (cI, 60, .inl f_hashes)), (a_p1_included, .inr (5, [.ref a_p1_included_held, .int v_p1_included_size])), (a_p1_included_held, .inl (cI, 3, .inl f_p1_included_held)), (a_included, .inl (cI, 180, .inl f_included)), (a_p2, .inr (6, [.int v_p2_made, .ref a_p2_ids, .ref a_p2_inputCounts, .ref a_p2_inputSlots, .ref a_p2_inputFingerprints, .ref a_p2_inputOutputs, .ref a_p2_inputSecrets, .ref a_p2_inputLocks, .ref a_p2_outputCounts, .ref a_p2_outputLocks, .ref a_p2_outputAmounts])), (a_p2_ids, .inl (cI, 41, .inl f_p2_ids)), (a_parentCounts, .inl (cI, 60, .inl f_parentCounts)), (a_includedCounts, .inl (cI, 60, .inl f_includedCounts)), (a_locks, .inl (cI, 60, .inl f_locks))] H) (hD : va_D A [(a_this, .inr (2, [.int v_made, .ref a_parentCounts, .ref a_parents, .ref a_includedCounts, .ref a_included, .ref a_locks, .ref a_hashes])), (a_p1, .inr (1, [.ref a_p1_parents, .ref a_p1_included])), (a_p1_parents, .inr (5, [.ref a_p1_parents_held, .int v_p1_parents_size])), (a_p1_parents_held, .inl (cI, 4, .inl f_p1_parents_held)), (a_parents, .inl (cI, 240, .inl z13_f_parents)), (a_hashes, .inl (cI, 60, .inl f_hashes)), (a_p1_included, .inr (5, [.ref a_p1_included_held, .int v_p1_included_size])), (a_p1_included_held, .inl (cI, 3, .inl f_p1_included_held)), (a_included, .inl (cI, 180, .inl f_included)), (a_p2, .inr (6, [.int v_p2_made, .ref a_p2_ids, .ref a_p2_inputCounts, .ref a_p2_inputSlots, .ref a_p2_inputFingerprints, .ref a_p2_inputOutputs, .ref a_p2_inputSecrets, .ref a_p2_inputLocks, .ref a_p2_outputCounts, .ref a_p2_outputLocks, .ref a_p2_outputAmounts])), (a_p2_ids, .inl (cI, 41, .inl f_p2_ids)), (a_parentCounts, .inl (cI, 60, .inl f_parentCounts)), (a_includedCounts, .inl (cI, 60, .inl f_includedCounts)), (a_locks, .inl (cI, 60, .inl f_locks))]) (hS : va_S A s.heap H locs) (hl : lv_has ls 9 [(0, .ref a_this), (1, .ref a_p1), (2, .ref a_p2), (3, .int x3), (4, .int x4), (5, .int v_made), (6, .int z13_6), (7, .int z13_7)]), W p l e rm_bl_build s m args below meth c H locs 0 0 Q (F0 m 13 ls [])) (by
      rintro bk13 hb13 ⟨z13_6, z13_7, z13_f_parents⟩ h ls H locs hP hD hS hl
      unfold m_bl_build_L13 at h
      try dsimp only at h
      refine lv_iload (pc := 13) hx hb d_bl_build_13 (lv_at hl 7 rfl) ?_
      refine lv_aload_n (pc := 15) hx hb d_bl_build_15 rfl (lv_at hl 1 rfl) ?_
      refine gf_bl_47 (pc := 16) hx hb hw hN hown hK hP 1 rfl rfl d_bl_build_16 ?_
      refine gf_bl_52 (pc := 19) hx hb hw hN hown hK hP 2 rfl rfl d_bl_build_19 ?_
      refine lv_icmp_ge (pc := 22) (tgt := 70) hx hb d_bl_build_22 rfl (fun hc => ?_) (fun hc => ?_)
      · have h := mo_t hc h
        exact E13 z13_6 z13_f_parents _ _ _ hP hD hS (lv_sub hl [0, 1, 2, 3, 4, 5, 6] rfl) (by rw [Option.some.inj h]; exact hr13)
      · have h := mo_f hc h
        refine lv_aload_n (pc := 25) hx hb d_bl_build_25 rfl (lv_at hl 1 rfl) ?_
        refine gf_bl_47 (pc := 26) hx hb hw hN hown hK hP 1 rfl rfl d_bl_build_26 ?_
        refine lv_iload (pc := 29) hx hb d_bl_build_29 (lv_at hl 7 rfl) ?_
        obtain ⟨r31, hr31, h⟩ := mo_bd_e h
        refine mo_rV (pc := 31) (As := [.int z13_7]) (rest := []) (st1 := [.int r31]) ⟨hx, hb, hml, hown, hw⟩ (c_nu_at l D cI cL cZ a_p1_parents a_p1_parents_held v_p1_parents_size f_p1_parents_held 4 z13_7 r31 hr31) (kV_bl_57 hw ⟨by decide, by decide⟩) (hP.sub [2, 3] rfl) hK hN rfl rfl rfl hl.1 rfl rfl d_bl_build_31 rfl ?_
        refine lv_istore (pc := 34) (lv' := [(8, .int r31), (0, .ref a_this), (1, .ref a_p1), (2, .ref a_p2), (3, .int x3), (4, .int x4), (5, .int v_made), (6, .int z13_6), (7, .int z13_7)]) hx hb d_bl_build_34 hl (by decide) rfl (fun ls hl => ?_)
        refine lv_aload_n (pc := 36) hx hb d_bl_build_36 rfl (lv_at hl 1 rfl) ?_
        refine gf_bl_15 (pc := 37) hx hb hw hN hown hK hP 0 rfl rfl d_bl_build_37 ?_
        refine lv_iload (pc := 40) hx hb d_bl_build_40 (lv_at hl 6 rfl) ?_
        refine lv_iconst (pc := 42) (v := 4) hx hb d_bl_build_42 (by decide) ?_
        refine lv_imul (pc := 43) hx hb d_bl_build_43 ?_
        refine lv_iload (pc := 44) hx hb d_bl_build_44 (lv_at hl 8 rfl) ?_
        refine lv_iadd (pc := 46) hx hb d_bl_build_46 ?_
        refine lv_iload (pc := 47) hx hb d_bl_build_47 (lv_at hl 0 rfl) ?_
        obtain ⟨g49, hi49, e49, h⟩ := mo_wI_e h
        refine mo_iast (pc := 49) hx hb hK hP hD hS 4 0 rfl rfl hi49 e49 d_bl_build_49 (fun H locs hP hD hS => ?_)
        have hP : va_P D cl [(a_this, .inr (2, [.int v_made, .ref a_parentCounts, .ref a_parents, .ref a_includedCounts, .ref a_included, .ref a_locks, .ref a_hashes])), (a_p1, .inr (1, [.ref a_p1_parents, .ref a_p1_included])), (a_p1_parents, .inr (5, [.ref a_p1_parents_held, .int v_p1_parents_size])), (a_p1_parents_held, .inl (cI, 4, .inl f_p1_parents_held)), (a_parents, .inl (cI, 240, .inl g49)), (a_hashes, .inl (cI, 60, .inl f_hashes)), (a_p1_included, .inr (5, [.ref a_p1_included_held, .int v_p1_included_size])), (a_p1_included_held, .inl (cI, 3, .inl f_p1_included_held)), (a_included, .inl (cI, 180, .inl f_included)), (a_p2, .inr (6, [.int v_p2_made, .ref a_p2_ids, .ref a_p2_inputCounts, .ref a_p2_inputSlots, .ref a_p2_inputFingerprints, .ref a_p2_inputOutputs, .ref a_p2_inputSecrets, .ref a_p2_inputLocks, .ref a_p2_outputCounts, .ref a_p2_outputLocks, .ref a_p2_outputAmounts])), (a_p2_ids, .inl (cI, 41, .inl f_p2_ids)), (a_parentCounts, .inl (cI, 60, .inl f_parentCounts)), (a_includedCounts, .inl (cI, 60, .inl f_includedCounts)), (a_locks, .inl (cI, 60, .inl f_locks))] H := hP
        have hD : va_D A [(a_this, .inr (2, [.int v_made, .ref a_parentCounts, .ref a_parents, .ref a_includedCounts, .ref a_included, .ref a_locks, .ref a_hashes])), (a_p1, .inr (1, [.ref a_p1_parents, .ref a_p1_included])), (a_p1_parents, .inr (5, [.ref a_p1_parents_held, .int v_p1_parents_size])), (a_p1_parents_held, .inl (cI, 4, .inl f_p1_parents_held)), (a_parents, .inl (cI, 240, .inl g49)), (a_hashes, .inl (cI, 60, .inl f_hashes)), (a_p1_included, .inr (5, [.ref a_p1_included_held, .int v_p1_included_size])), (a_p1_included_held, .inl (cI, 3, .inl f_p1_included_held)), (a_included, .inl (cI, 180, .inl f_included)), (a_p2, .inr (6, [.int v_p2_made, .ref a_p2_ids, .ref a_p2_inputCounts, .ref a_p2_inputSlots, .ref a_p2_inputFingerprints, .ref a_p2_inputOutputs, .ref a_p2_inputSecrets, .ref a_p2_inputLocks, .ref a_p2_outputCounts, .ref a_p2_outputLocks, .ref a_p2_outputAmounts])), (a_p2_ids, .inl (cI, 41, .inl f_p2_ids)), (a_parentCounts, .inl (cI, 60, .inl f_parentCounts)), (a_includedCounts, .inl (cI, 60, .inl f_includedCounts)), (a_locks, .inl (cI, 60, .inl f_locks))] := hD
        refine lv_iload (pc := 50) hx hb d_bl_build_50 (lv_at hl 7 rfl) ?_
        refine lv_aload_n (pc := 52) hx hb d_bl_build_52 rfl (lv_at hl 1 rfl) ?_
        refine gf_bl_27 (pc := 53) hx hb hw hN hown hK hP 0 rfl rfl d_bl_build_53 ?_
        refine lv_iload (pc := 56) hx hb d_bl_build_56 (lv_at hl 0 rfl) ?_
        obtain ⟨v58, hi58, e58, h⟩ := mo_rI_e h
        refine mo_iald (pc := 58) hx hb hK hP 5 0 rfl rfl hi58 e58 d_bl_build_58 ?_
        obtain ⟨r59, hr59, h⟩ := mo_bd_e h
        refine mo_rSN (pc := 59) (As := [.int z13_6, .int v58]) (rest := []) (st1 := [.int r59]) ⟨hx, hb, hml, hown, hw⟩ (c_bm_mix l D cI cL cZ z13_6 v58 r59 hr59) (kSN_bl_30 hw hN ⟨by decide, by decide⟩) mo_P0 hK hN rfl hl.1 rfl rfl d_bl_build_59 rfl ?_
        refine lv_istore (pc := 62) (lv' := [(6, .int r59), (8, .int r31), (0, .ref a_this), (1, .ref a_p1), (2, .ref a_p2), (3, .int x3), (4, .int x4), (5, .int v_made), (7, .int z13_7)]) hx hb d_bl_build_62 hl (by decide) rfl (fun ls hl => ?_)
        refine lv_iinc (pc := 64) (k := 8) (v := z13_7 + 1) (lv' := [(7, .int (z13_7 + 1)), (6, .int r59), (8, .int r31), (0, .ref a_this), (1, .ref a_p1), (2, .ref a_p2), (3, .int x3), (4, .int x4), (5, .int v_made)]) hx hb d_bl_build_64 hl rfl (mo_inc1 _) (by decide) rfl (fun ls hl => ?_)
        refine lv_goto (pc := 67) (tgt := 13) hx hb d_bl_build_67 rfl ?_
        exact hb13 (r59, z13_7 + 1, g49) h _ _ _ hP hD hS (lv_sub hl [3, 4, 5, 6, 7, 8, 1, 0] rfl)
    ) _ _ hy13 _ _ _ hP hD hS (lv_sub hl [3, 4, 5, 6, 7, 2, 1, 0] rfl)
