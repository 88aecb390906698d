set_option maxRecDepth 100000 in
set_option maxHeartbeats 4000000 in
theorem c_bm_order (l : Launch) (D : va_G) (cI cL cZ : ClassId) (a_this : Nat) (a_dag : Nat) (a_dag_sequence : Nat) (a_transactions : Nat) (a_blocks : Nat) (a_plan : Nat) (a_templatePlan : Nat) (a_orphans : Nat) (a_ledger : Nat) (a_pooled : Nat) (a_ahead : Nat) (a_dag_past : Nat) (a_dag_future : Nat) (a_dag_blues : Nat) (a_dag_scores : Nat) (a_dag_selected : Nat) (a_dag_sorted : Nat) (v_dag_k : Int32) (v_dag_members : Int64) (v_dag_tips : Int64) (f_dag_sequence : Nat → Int32) (x1 : Int32) (o : Int32) (h : m_bm_order v_dag_members f_dag_sequence x1 = some o) : Met l y_bm_order (Cond.code y_bm_order b_bm_order 2 (some .int) :: WG) rm_bm_order (va_Pc [.ref a_this, .int x1] (mo_Pr D [(cI, .int), (cL, .long), (cZ, .boolean)] [(a_this, .inr (0, [.ref a_transactions, .ref a_blocks, .ref a_plan, .ref a_templatePlan, .ref a_dag, .ref a_orphans, .ref a_ledger, .ref a_pooled, .ref a_ahead])), (a_dag, .inr (3, [.ref a_blocks, .int v_dag_k, .long v_dag_members, .long v_dag_tips, .ref a_dag_past, .ref a_dag_future, .ref a_dag_blues, .ref a_dag_scores, .ref a_dag_selected, .ref a_dag_sequence, .ref a_dag_sorted])), (a_dag_sequence, .inl (cI, 60, .inl f_dag_sequence))])) (mo_Qr (some (.int o))) 0 0 (fun _ => False) := by
  refine mo_start (by decide) (Nat.le_of_ble_eq_true rfl) ?_
  intro p e s m args below meth c hx hb hr hlocks hml hown hw hv ls hl Q hQ
  obtain ⟨hP, hK, hN⟩ := hv
  have hl : lv_has ls 2 [(0, .ref a_this), (1, .int x1)] := hl
  unfold m_bm_order at h
  refine lv_iload_n (pc := 0) hx hb d_bm_order_0 rfl (lv_at hl 1 rfl) ?_
  refine lv_if_lt (pc := 1) (tgt := 27) hx hb d_bm_order_1 rfl (fun hc => ?_) (fun hc => ?_)
  · have h := mo_t hc h
    refine lv_iconst (pc := 27) (v := (-1)) hx hb d_bm_order_27 (by decide) ?_
    exact mo_retIr hx hb hr hlocks hQ h d_bm_order_28
  · have h := mo_f hc h
    refine lv_iload_n (pc := 4) hx hb d_bm_order_4 rfl (lv_at hl 1 rfl) ?_
    refine lv_aload_n (pc := 5) hx hb d_bm_order_5 rfl (lv_at hl 0 rfl) ?_
    refine gf_bm_38 (pc := 6) hx hb hw hN hown hK hP 0 rfl rfl d_bm_order_6 ?_
    obtain ⟨r9, hr9, h⟩ := mo_bd_e h
    refine mo_rV (pc := 9) (As := []) (rest := [.int x1]) (st1 := [.int r9, .int x1]) ⟨hx, hb, hml, hown, hw⟩ (c_dg_size l D cI cL cZ a_dag a_blocks a_dag_past a_dag_future a_dag_blues a_dag_scores a_dag_selected a_dag_sequence a_dag_sorted v_dag_k v_dag_members v_dag_tips r9 hr9) (kV_bm_197 hw ⟨by decide, by decide⟩) (hP.sub [1] rfl) hK hN rfl rfl rfl hl.1 rfl rfl d_bm_order_9 rfl ?_
    refine lv_icmp_ge (pc := 12) (tgt := 27) hx hb d_bm_order_12 rfl (fun hc => ?_) (fun hc => ?_)
    · have h := mo_t hc h
      refine lv_iconst (pc := 27) (v := (-1)) hx hb d_bm_order_27 (by decide) ?_
      exact mo_retIr hx hb hr hlocks hQ h d_bm_order_28
    · have h := mo_f hc h
      refine lv_aload_n (pc := 15) hx hb d_bm_order_15 rfl (lv_at hl 0 rfl) ?_
      refine gf_bm_38 (pc := 16) hx hb hw hN hown hK hP 0 rfl rfl d_bm_order_16 ?_
      refine gf_bm_199 (pc := 19) hx hb hw hN hown hK hP 1 rfl rfl d_bm_order_19 ?_
      refine lv_iload_n (pc := 22) hx hb d_bm_order_22 rfl (lv_at hl 1 rfl) ?_
      obtain ⟨v23, hi23, e23, h⟩ := mo_rI_e h
      refine mo_iald (pc := 23) hx hb hK hP 2 0 rfl rfl hi23 e23 d_bm_order_23 ?_
      refine lv_goto (pc := 24) (tgt := 28) hx hb d_bm_order_24 rfl ?_
      exact mo_retIr hx hb hr hlocks hQ h d_bm_order_28
set_option maxRecDepth 100000 in
set_option maxHeartbeats 4000000 in
theorem c_bm_unspent (l : Launch) (D : va_G) (cI cL cZ : ClassId) (a_this : Nat) (a_ledger : Nat) (a_ledger_amounts : Nat) (a_transactions : Nat) (a_blocks : Nat) (a_plan : Nat) (a_templatePlan : Nat) (a_dag : Nat) (a_orphans : Nat) (a_pooled : Nat) (a_ahead : Nat) (v_ledger_accepted : Int64) (f_ledger_amounts : Nat → Int32) (x1 : Int32) (x2 : Int32) (o : Int32) (h : m_bm_unspent f_ledger_amounts x1 x2 = some o) : Met l y_bm_unspent (Cond.code y_bm_unspent b_bm_unspent 4 (some .int) :: WG) rm_bm_unspent (va_Pc [.ref a_this, .int x1, .int x2] (mo_Pr D [(cI, .int), (cL, .long), (cZ, .boolean)] [(a_this, .inr (0, [.ref a_transactions, .ref a_blocks, .ref a_plan, .ref a_templatePlan, .ref a_dag, .ref a_orphans, .ref a_ledger, .ref a_pooled, .ref a_ahead])), (a_ledger, .inr (4, [.ref a_transactions, .ref a_blocks, .ref a_ledger_amounts, .long v_ledger_accepted])), (a_ledger_amounts, .inl (cI, 140, .inl f_ledger_amounts))])) (mo_Qr (some (.int o))) 0 0 (fun _ => False) := by
  refine mo_start (by decide) (Nat.le_of_ble_eq_true rfl) ?_
  intro p e s m args below meth c hx hb hr hlocks hml hown hw hv ls hl Q hQ
  obtain ⟨hP, hK, hN⟩ := hv
  have hl : lv_has ls 4 [(0, .ref a_this), (1, .int x1), (2, .int x2)] := hl
  unfold m_bm_unspent at h
  refine lv_iload_n (pc := 0) hx hb d_bm_unspent_0 rfl (lv_at hl 1 rfl) ?_
  refine lv_iload_n (pc := 1) hx hb d_bm_unspent_1 rfl (lv_at hl 2 rfl) ?_
  obtain ⟨r2, hr2, h⟩ := mo_bd_e h
  refine mo_rS (pc := 2) (As := [.int x1, .int x2]) (rest := []) (st1 := [.int r2]) ⟨hx, hb, hml, hown, hw⟩ (c_bm_slotOf l D cI cL cZ x1 x2 r2 hr2) (kS_bm_72 hw ⟨by decide, by decide⟩) mo_P0 hK hN rfl hl.1 rfl rfl d_bm_unspent_2 rfl ?_
  refine lv_istore_n (pc := 5) (lv' := [(3, .int r2), (0, .ref a_this), (1, .int x1), (2, .int x2)]) hx hb d_bm_unspent_5 rfl hl (by decide) rfl (fun ls hl => ?_)
  refine lv_iload_n (pc := 6) hx hb d_bm_unspent_6 rfl (lv_at hl 0 rfl) ?_
  refine lv_iconst (pc := 7) (v := (-1)) hx hb d_bm_unspent_7 (by decide) ?_
  refine lv_icmp_ne (pc := 8) (tgt := 15) hx hb d_bm_unspent_8 rfl (fun hc => ?_) (fun hc => ?_)
  · have h := mo_f hc h
    refine lv_aload_n (pc := 15) hx hb d_bm_unspent_15 rfl (lv_at hl 1 rfl) ?_
    refine gf_bm_56 (pc := 16) hx hb hw hN hown hK hP 0 rfl rfl d_bm_unspent_16 ?_
    refine gf_bm_202 (pc := 19) hx hb hw hN hown hK hP 1 rfl rfl d_bm_unspent_19 ?_
    refine lv_iload_n (pc := 22) hx hb d_bm_unspent_22 rfl (lv_at hl 0 rfl) ?_
    obtain ⟨v23, hi23, e23, h⟩ := mo_rI_e h
    refine mo_iald (pc := 23) hx hb hK hP 2 0 rfl rfl hi23 e23 d_bm_unspent_23 ?_
    exact mo_retIr hx hb hr hlocks hQ h d_bm_unspent_24
  · have h := mo_t hc h
    refine lv_iconst (pc := 11) (v := (-1)) hx hb d_bm_unspent_11 (by decide) ?_
    refine lv_goto (pc := 12) (tgt := 24) hx hb d_bm_unspent_12 rfl ?_
    exact mo_retIr hx hb hr hlocks hQ h d_bm_unspent_24
set_option maxRecDepth 100000 in
set_option maxHeartbeats 4000000 in
theorem c_bm_pool (l : Launch) (D : va_G) (cI cL cZ : ClassId) (a_this : Nat) (a_pooled : Nat) (a_pooled_held : Nat) (a_transactions : Nat) (a_blocks : Nat) (a_plan : Nat) (a_templatePlan : Nat) (a_dag : Nat) (a_orphans : Nat) (a_ledger : Nat) (a_ahead : Nat) (v_pooled_size : Int32) (f_pooled_held : Nat → Int32) (x1 : Int32) (o : Int32) (h : m_bm_pool v_pooled_size f_pooled_held x1 = some o) : Met l y_bm_pool (Cond.code y_bm_pool b_bm_pool 2 (some .int) :: WG) rm_bm_pool (va_Pc [.ref a_this, .int x1] (mo_Pr D [(cI, .int), (cL, .long), (cZ, .boolean)] [(a_this, .inr (0, [.ref a_transactions, .ref a_blocks, .ref a_plan, .ref a_templatePlan, .ref a_dag, .ref a_orphans, .ref a_ledger, .ref a_pooled, .ref a_ahead])), (a_pooled, .inr (5, [.ref a_pooled_held, .int v_pooled_size])), (a_pooled_held, .inl (cI, 8, .inl f_pooled_held))])) (mo_Qr (some (.int o))) 0 0 (fun _ => False) := by
  refine mo_start (by decide) (Nat.le_of_ble_eq_true rfl) ?_
  intro p e s m args below meth c hx hb hr hlocks hml hown hw hv ls hl Q hQ
  obtain ⟨hP, hK, hN⟩ := hv
  have hl : lv_has ls 2 [(0, .ref a_this), (1, .int x1)] := hl
  unfold m_bm_pool at h
  refine lv_aload_n (pc := 0) hx hb d_bm_pool_0 rfl (lv_at hl 0 rfl) ?_
  refine gf_bm_60 (pc := 1) hx hb hw hN hown hK hP 0 rfl rfl d_bm_pool_1 ?_
  refine lv_iload_n (pc := 4) hx hb d_bm_pool_4 rfl (lv_at hl 1 rfl) ?_
  obtain ⟨r5, hr5, h⟩ := mo_bd_e h
  refine mo_rV (pc := 5) (As := [.int x1]) (rest := []) (st1 := [.int r5]) ⟨hx, hb, hml, hown, hw⟩ (c_nu_at l D cI cL cZ a_pooled a_pooled_held v_pooled_size f_pooled_held 8 x1 r5 hr5) (kV_bm_144 hw ⟨by decide, by decide⟩) (hP.sub [1, 2] rfl) hK hN rfl rfl rfl hl.1 rfl rfl d_bm_pool_5 rfl ?_
  exact mo_retIr hx hb hr hlocks hQ h d_bm_pool_8
set_option maxRecDepth 100000 in
set_option maxHeartbeats 4000000 in
theorem c_bm_missingParents (l : Launch) (D : va_G) (cI cL cZ : ClassId) (a_this : Nat) (a_dag : Nat) (a_orphans : Nat) (a_orphans_held : Nat) (a_blocks : Nat) (a_blocks_parentCounts : Nat) (a_blocks_parents : Nat) (a_transactions : Nat) (a_plan : Nat) (a_templatePlan : Nat) (a_ledger : Nat) (a_pooled : Nat) (a_ahead : Nat) (a_dag_past : Nat) (a_dag_future : Nat) (a_dag_blues : Nat) (a_dag_scores : Nat) (a_dag_selected : Nat) (a_dag_sequence : Nat) (a_dag_sorted : Nat) (a_blocks_includedCounts : Nat) (a_blocks_included : Nat) (a_blocks_locks : Nat) (a_blocks_hashes : Nat) (v_dag_k : Int32) (v_dag_members : Int64) (v_dag_tips : Int64) (v_orphans_size : Int32) (v_blocks_made : Int32) (f_orphans_held : Nat → Int32) (f_blocks_parentCounts : Nat → Int32) (f_blocks_parents : Nat → Int32) (o : Int64) (h : m_bm_missingParents v_dag_members v_orphans_size f_orphans_held f_blocks_parentCounts f_blocks_parents = some o) : Met l y_bm_missingParents (Cond.code y_bm_missingParents b_bm_missingParents 6 (some .long) :: WG) rm_bm_missingParents (va_Pc [.ref a_this] (mo_Pr D [(cI, .int), (cL, .long), (cZ, .boolean)] [(a_this, .inr (0, [.ref a_transactions, .ref a_blocks, .ref a_plan, .ref a_templatePlan, .ref a_dag, .ref a_orphans, .ref a_ledger, .ref a_pooled, .ref a_ahead])), (a_dag, .inr (3, [.ref a_blocks, .int v_dag_k, .long v_dag_members, .long v_dag_tips, .ref a_dag_past, .ref a_dag_future, .ref a_dag_blues, .ref a_dag_scores, .ref a_dag_selected, .ref a_dag_sequence, .ref a_dag_sorted])), (a_orphans, .inr (5, [.ref a_orphans_held, .int v_orphans_size])), (a_orphans_held, .inl (cI, 4, .inl f_orphans_held)), (a_blocks, .inr (2, [.int v_blocks_made, .ref a_blocks_parentCounts, .ref a_blocks_parents, .ref a_blocks_includedCounts, .ref a_blocks_included, .ref a_blocks_locks, .ref a_blocks_hashes])), (a_blocks_parentCounts, .inl (cI, 60, .inl f_blocks_parentCounts)), (a_blocks_parents, .inl (cI, 240, .inl f_blocks_parents))])) (mo_Qr (some (.long o))) 0 0 (fun _ => False) := by
  refine mo_start (by decide) (Nat.le_of_ble_eq_true rfl) ?_
  intro p e s m args below meth c hx hb hr hlocks hml hown hw hv ls hl Q hQ
  obtain ⟨hP, hK, hN⟩ := hv
  have hl : lv_has ls 6 [(0, .ref a_this)] := hl
  unfold m_bm_missingParents at h
  refine lv_lconst (pc := 0) (v := 0) hx hb d_bm_missingParents_0 (by decide) ?_
  refine lv_lstore_n (pc := 1) (lv' := [(1, .long 0), (0, .ref a_this)]) hx hb d_bm_missingParents_1 rfl hl (by decide) rfl (fun ls hl => ?_)
  refine lv_aload_n (pc := 2) hx hb d_bm_missingParents_2 rfl (lv_at hl 1 rfl) ?_
  refine gf_bm_38 (pc := 3) hx hb hw hN hown hK hP 0 rfl rfl d_bm_missingParents_3 ?_
  refine gf_bm_245 (pc := 6) hx hb hw hN hown hK hP 1 rfl rfl d_bm_missingParents_6 ?_
  refine lv_lstore_n (pc := 9) (lv' := [(3, .long v_dag_members), (1, .long 0), (0, .ref a_this)]) hx hb d_bm_missingParents_9 rfl hl (by decide) rfl (fun ls hl => ?_)
  refine lv_iconst (pc := 10) (v := 0) hx hb d_bm_missingParents_10 (by decide) ?_
  refine lv_istore (pc := 11) (lv' := [(5, .int 0), (3, .long v_dag_members), (1, .long 0), (0, .ref a_this)]) hx hb d_bm_missingParents_11 hl (by decide) rfl (fun ls hl => ?_)
  obtain ⟨w13, K13, eK13, hy13, hr13⟩ := mo_bd_k h
  have E13 : ∀ (y13_1 : Int64) (y13_3 : Int64) (ls : Array Slot) (hl : lv_has ls 6 [(1, .long y13_1), (3, .long y13_3)]) (h : K13 (y13_1, y13_3) = some o), W p l e rm_bm_missingParents s m args below meth c s.heap [] 0 0 Q (F0 m 65 ls []) := by
    intro y13_1 y13_3 ls hl h
    have h := mo_a1 eK13 h
    try dsimp only at h
    refine lv_lload_n (pc := 65) hx hb d_bm_missingParents_65 rfl (lv_at hl 0 rfl) ?_
    refine lv_lload_n (pc := 66) hx hb d_bm_missingParents_66 rfl (lv_at hl 1 rfl) ?_
    refine lv_ldc2 (pc := 67) (v := (-1)) hx hb hown (hw _ wd_3_10) d_bm_missingParents_67 ?_
    refine lv_lxor (pc := 70) hx hb d_bm_missingParents_70 ?_
    refine lv_land (pc := 71) hx hb d_bm_missingParents_71 ?_
    exact mo_retLr hx hb hr hlocks hQ h d_bm_missingParents_72
  exact mo_lp_i (step := (m_bm_missingParents_L13 v_orphans_size f_orphans_held f_blocks_parentCounts f_blocks_parents)) (o := w13) (fun (x : Int64 × Int64 × Int32) => match x with | (z13_1, z13_3, z13_5) => ∀ (ls : Array Slot) (hl : lv_has ls 6 [(0, .ref a_this), (1, .long z13_1), (3, .long z13_3), (5, .int z13_5)]), W p l e rm_bm_missingParents s m args below meth c s.heap [] 0 0 Q (F0 m 13 ls [])) (by
      rintro bk13 hb13 ⟨z13_1, z13_3, z13_5⟩ h ls hl
      unfold m_bm_missingParents_L13 at h
      try dsimp only at h
      refine lv_iload (pc := 13) hx hb d_bm_missingParents_13 (lv_at hl 3 rfl) ?_
      refine lv_aload_n (pc := 15) hx hb d_bm_missingParents_15 rfl (lv_at hl 0 rfl) ?_
      refine gf_bm_47 (pc := 16) hx hb hw hN hown hK hP 0 rfl rfl d_bm_missingParents_16 ?_
      refine gf_bm_112 (pc := 19) hx hb hw hN hown hK hP 2 rfl rfl d_bm_missingParents_19 ?_
      refine lv_icmp_ge (pc := 22) (tgt := 65) hx hb d_bm_missingParents_22 rfl (fun hc => ?_) (fun hc => ?_)
      · have h := mo_t hc h
        exact E13 z13_1 z13_3 _ (lv_sub hl [1, 2] rfl) (by rw [Option.some.inj h]; exact hr13)
      · have h := mo_f hc h
        refine lv_lload_n (pc := 25) hx hb d_bm_missingParents_25 rfl (lv_at hl 1 rfl) ?_
        refine lv_aload_n (pc := 26) hx hb d_bm_missingParents_26 rfl (lv_at hl 0 rfl) ?_
        refine gf_bm_19 (pc := 27) hx hb hw hN hown hK hP 0 rfl rfl d_bm_missingParents_27 ?_
        refine lv_aload_n (pc := 30) hx hb d_bm_missingParents_30 rfl (lv_at hl 0 rfl) ?_
        refine gf_bm_47 (pc := 31) hx hb hw hN hown hK hP 0 rfl rfl d_bm_missingParents_31 ?_
        refine lv_iload (pc := 34) hx hb d_bm_missingParents_34 (lv_at hl 3 rfl) ?_
        obtain ⟨r36, hr36, h⟩ := mo_bd_e h
        refine mo_rV (pc := 36) (As := [.int z13_5]) (rest := [.ref a_blocks, .long z13_1]) (st1 := [.int r36, .ref a_blocks, .long z13_1]) ⟨hx, hb, hml, hown, hw⟩ (c_nu_at l D cI cL cZ a_orphans a_orphans_held v_orphans_size f_orphans_held 4 z13_5 r36 hr36) (kV_bm_144 hw ⟨by decide, by decide⟩) (hP.sub [2, 3] rfl) hK hN rfl rfl rfl hl.1 rfl rfl d_bm_missingParents_36 rfl ?_
        obtain ⟨r39, hr39, h⟩ := mo_bd_e h
        refine mo_rV (pc := 39) (As := [.int r36]) (rest := [.long z13_1]) (st1 := [.long r39, .long z13_1]) ⟨hx, hb, hml, hown, hw⟩ (c_bl_parentSet l D cI cL cZ a_blocks a_blocks_parentCounts a_blocks_parents a_blocks_includedCounts a_blocks_included a_blocks_locks a_blocks_hashes v_blocks_made f_blocks_parentCounts f_blocks_parents r36 r39 hr39) (kV_bm_248 hw ⟨by decide, by decide⟩) (hP.sub [4, 5, 6] rfl) hK hN rfl rfl rfl hl.1 rfl rfl d_bm_missingParents_39 rfl ?_
        refine lv_lor (pc := 42) hx hb d_bm_missingParents_42 ?_
        refine lv_lstore_n (pc := 43) (lv' := [(1, .long (z13_1 ||| r39)), (0, .ref a_this), (3, .long z13_3), (5, .int z13_5)]) hx hb d_bm_missingParents_43 rfl hl (by decide) rfl (fun ls hl => ?_)
        refine lv_lload_n (pc := 44) hx hb d_bm_missingParents_44 rfl (lv_at hl 2 rfl) ?_
        refine lv_aload_n (pc := 45) hx hb d_bm_missingParents_45 rfl (lv_at hl 1 rfl) ?_
        refine gf_bm_47 (pc := 46) hx hb hw hN hown hK hP 0 rfl rfl d_bm_missingParents_46 ?_
        refine lv_iload (pc := 49) hx hb d_bm_missingParents_49 (lv_at hl 3 rfl) ?_
        obtain ⟨r51, hr51, h⟩ := mo_bd_e h
        refine mo_rV (pc := 51) (As := [.int z13_5]) (rest := [.long z13_3]) (st1 := [.int r51, .long z13_3]) ⟨hx, hb, hml, hown, hw⟩ (c_nu_at l D cI cL cZ a_orphans a_orphans_held v_orphans_size f_orphans_held 4 z13_5 r51 hr51) (kV_bm_144 hw ⟨by decide, by decide⟩) (hP.sub [2, 3] rfl) hK hN rfl rfl rfl hl.1 rfl rfl d_bm_missingParents_51 rfl ?_
        obtain ⟨r54, hr54, h⟩ := mo_bd_e h
        refine mo_rS (pc := 54) (As := [.int r51]) (rest := [.long z13_3]) (st1 := [.long r54, .long z13_3]) ⟨hx, hb, hml, hown, hw⟩ (c_bm_bit l D cI cL cZ r51 r54 hr54) (kS_bm_138 hw ⟨by decide, by decide⟩) mo_P0 hK hN rfl hl.1 rfl rfl d_bm_missingParents_54 rfl ?_
        refine lv_lor (pc := 57) hx hb d_bm_missingParents_57 ?_
        refine lv_lstore_n (pc := 58) (lv' := [(3, .long (z13_3 ||| r54)), (1, .long (z13_1 ||| r39)), (0, .ref a_this), (5, .int z13_5)]) hx hb d_bm_missingParents_58 rfl hl (by decide) rfl (fun ls hl => ?_)
        refine lv_iinc (pc := 59) (k := 3) (v := z13_5 + 1) (lv' := [(5, .int (z13_5 + 1)), (3, .long (z13_3 ||| r54)), (1, .long (z13_1 ||| r39)), (0, .ref a_this)]) hx hb d_bm_missingParents_59 hl rfl (mo_inc1 _) (by decide) rfl (fun ls hl => ?_)
        refine lv_goto (pc := 62) (tgt := 13) hx hb d_bm_missingParents_62 rfl ?_
        exact hb13 (z13_1 ||| r39, z13_3 ||| r54, z13_5 + 1) h _ (lv_sub hl [3, 2, 1, 0] rfl)
    ) _ _ hy13 _ (lv_sub hl [3, 2, 1, 0] rfl)
set_option maxRecDepth 100000 in
set_option maxHeartbeats 4000000 in
theorem c_bm_wanted (l : Launch) (D : va_G) (cI cL cZ : ClassId) (a_this : Nat) (a_dag : Nat) (a_orphans : Nat) (a_orphans_held : Nat) (a_blocks : Nat) (a_blocks_parentCounts : Nat) (a_blocks_parents : Nat) (a_transactions : Nat) (a_plan : Nat) (a_templatePlan : Nat) (a_ledger : Nat) (a_pooled : Nat) (a_ahead : Nat) (a_dag_past : Nat) (a_dag_future : Nat) (a_dag_blues : Nat) (a_dag_scores : Nat) (a_dag_selected : Nat) (a_dag_sequence : Nat) (a_dag_sorted : Nat) (a_blocks_includedCounts : Nat) (a_blocks_included : Nat) (a_blocks_locks : Nat) (a_blocks_hashes : Nat) (v_dag_k : Int32) (v_dag_members : Int64) (v_dag_tips : Int64) (v_orphans_size : Int32) (v_blocks_made : Int32) (f_orphans_held : Nat → Int32) (f_blocks_parentCounts : Nat → Int32) (f_blocks_parents : Nat → Int32) (x1 : Int32) (o : Int32) (h : m_bm_wanted v_dag_members v_orphans_size f_orphans_held f_blocks_parentCounts f_blocks_parents x1 = some o) : Met l y_bm_wanted (Cond.code y_bm_wanted b_bm_wanted 6 (some .int) :: WG) rm_bm_wanted (va_Pc [.ref a_this, .int x1] (mo_Pr D [(cI, .int), (cL, .long), (cZ, .boolean)] [(a_this, .inr (0, [.ref a_transactions, .ref a_blocks, .ref a_plan, .ref a_templatePlan, .ref a_dag, .ref a_orphans, .ref a_ledger, .ref a_pooled, .ref a_ahead])), (a_dag, .inr (3, [.ref a_blocks, .int v_dag_k, .long v_dag_members, .long v_dag_tips, .ref a_dag_past, .ref a_dag_future, .ref a_dag_blues, .ref a_dag_scores, .ref a_dag_selected, .ref a_dag_sequence, .ref a_dag_sorted])), (a_orphans, .inr (5, [.ref a_orphans_held, .int v_orphans_size])), (a_orphans_held, .inl (cI, 4, .inl f_orphans_held)), (a_blocks, .inr (2, [.int v_blocks_made, .ref a_blocks_parentCounts, .ref a_blocks_parents, .ref a_blocks_includedCounts, .ref a_blocks_included, .ref a_blocks_locks, .ref a_blocks_hashes])), (a_blocks_parentCounts, .inl (cI, 60, .inl f_blocks_parentCounts)), (a_blocks_parents, .inl (cI, 240, .inl f_blocks_parents))])) (mo_Qr (some (.int o))) 0 0 (fun _ => False) := by
  refine mo_start (by decide) (Nat.le_of_ble_eq_true rfl) ?_
  intro p e s m args below meth c hx hb hr hlocks hml hown hw hv ls hl Q hQ
  obtain ⟨hP, hK, hN⟩ := hv
  have hl : lv_has ls 6 [(0, .ref a_this), (1, .int x1)] := hl
  unfold m_bm_wanted at h
  refine lv_aload_n (pc := 0) hx hb d_bm_wanted_0 rfl (lv_at hl 0 rfl) ?_
  obtain ⟨r1, hr1, h⟩ := mo_bd_e h
  refine mo_rV (pc := 1) (As := []) (rest := []) (st1 := [.long r1]) ⟨hx, hb, hml, hown, hw⟩ (c_bm_missingParents l D cI cL cZ a_this a_dag a_orphans a_orphans_held a_blocks a_blocks_parentCounts a_blocks_parents a_transactions a_plan a_templatePlan a_ledger a_pooled a_ahead a_dag_past a_dag_future a_dag_blues a_dag_scores a_dag_selected a_dag_sequence a_dag_sorted a_blocks_includedCounts a_blocks_included a_blocks_locks a_blocks_hashes v_dag_k v_dag_members v_dag_tips v_orphans_size v_blocks_made f_orphans_held f_blocks_parentCounts f_blocks_parents r1 hr1) (kV_bm_205 hw ⟨by decide, by decide⟩) hP hK hN rfl rfl rfl hl.1 rfl rfl d_bm_wanted_1 rfl ?_
  refine lv_lstore_n (pc := 4) (lv' := [(2, .long r1), (0, .ref a_this), (1, .int x1)]) hx hb d_bm_wanted_4 rfl hl (by decide) rfl (fun ls hl => ?_)
  refine lv_iconst (pc := 5) (v := 0) hx hb d_bm_wanted_5 (by decide) ?_
  refine lv_istore (pc := 6) (lv' := [(4, .int 0), (2, .long r1), (0, .ref a_this), (1, .int x1)]) hx hb d_bm_wanted_6 hl (by decide) rfl (fun ls hl => ?_)
  refine lv_iconst (pc := 8) (v := 0) hx hb d_bm_wanted_8 (by decide) ?_
  refine lv_istore (pc := 9) (lv' := [(5, .int 0), (4, .int 0), (2, .long r1), (0, .ref a_this), (1, .int x1)]) hx hb d_bm_wanted_9 hl (by decide) rfl (fun ls hl => ?_)
  exact mo_lp_i (step := (m_bm_wanted_L11 x1 r1)) (o := o) (fun (x : Int32 × Int32) => match x with | (z11_4, z11_5) => ∀ (ls : Array Slot) (hl : lv_has ls 6 [(1, .int x1), (2, .long r1), (4, .int z11_4), (5, .int z11_5)]), W p l e rm_bm_wanted s m args below meth c s.heap [] 0 0 Q (F0 m 11 ls [])) (by
      rintro bk11 hb11 ⟨z11_4, z11_5⟩ h ls hl
      unfold m_bm_wanted_L11 at h
      try dsimp only at h
      refine lv_iload (pc := 11) hx hb d_bm_wanted_11 (lv_at hl 3 rfl) ?_
      refine lv_bipush (pc := 13) (v := 60) hx hb d_bm_wanted_13 (by decide) ?_
      refine lv_icmp_ge (pc := 15) (tgt := 48) hx hb d_bm_wanted_15 rfl (fun hc => ?_) (fun hc => ?_)
      · have h := mo_t hc h
        refine lv_iconst (pc := 48) (v := (-1)) hx hb d_bm_wanted_48 (by decide) ?_
        exact mo_retIr hx hb hr hlocks hQ h d_bm_wanted_49
      · have h := mo_f hc h
        refine lv_lload_n (pc := 18) hx hb d_bm_wanted_18 rfl (lv_at hl 1 rfl) ?_
        refine lv_iload (pc := 19) hx hb d_bm_wanted_19 (lv_at hl 3 rfl) ?_
        obtain ⟨r21, hr21, h⟩ := mo_bd_e h
        refine mo_rS (pc := 21) (As := [.long r1, .int z11_5]) (rest := []) (st1 := [.int r21]) ⟨hx, hb, hml, hown, hw⟩ (c_bm_holds l D cI cL cZ r1 z11_5 r21 hr21) (kS_bm_209 hw ⟨by decide, by decide⟩) mo_P0 hK hN rfl hl.1 rfl rfl d_bm_wanted_21 rfl ?_
        obtain ⟨j42, ej42, h⟩ := mo_jn_e h
        have B42 : ∀ (y42_4 : Int32) (ls : Array Slot) (hl : lv_has ls 6 [(1, .int x1), (2, .long r1), (4, .int y42_4), (5, .int z11_5)]) (h : j42 y42_4 = some o), W p l e rm_bm_wanted s m args below meth c s.heap [] 0 0 Q (F0 m 42 ls []) := by
          intro y42_4 ls hl h
          have h := mo_a1 ej42 h
          refine lv_iinc (pc := 42) (k := 3) (v := z11_5 + 1) (lv' := [(5, .int (z11_5 + 1)), (1, .int x1), (2, .long r1), (4, .int y42_4)]) hx hb d_bm_wanted_42 hl rfl (mo_inc1 _) (by decide) rfl (fun ls hl => ?_)
          refine lv_goto (pc := 45) (tgt := 11) hx hb d_bm_wanted_45 rfl ?_
          exact hb11 (y42_4, z11_5 + 1) h _ (lv_sub hl [1, 2, 3, 0] rfl)
        refine lv_if_ne (pc := 24) (tgt := 30) hx hb d_bm_wanted_24 rfl (fun hc => ?_) (fun hc => ?_)
        · have h := mo_f hc h
          refine lv_iload (pc := 30) hx hb d_bm_wanted_30 (lv_at hl 2 rfl) ?_
          refine lv_iload_n (pc := 32) hx hb d_bm_wanted_32 rfl (lv_at hl 0 rfl) ?_
          refine lv_icmp_ne (pc := 33) (tgt := 39) hx hb d_bm_wanted_33 rfl (fun hc => ?_) (fun hc => ?_)
          · have h := mo_f hc h
            refine lv_iinc (pc := 39) (k := 2) (v := z11_4 + 1) (lv' := [(4, .int (z11_4 + 1)), (1, .int x1), (2, .long r1), (5, .int z11_5)]) hx hb d_bm_wanted_39 hl rfl (mo_inc1 _) (by decide) rfl (fun ls hl => ?_)
            exact B42 (z11_4 + 1) _ (lv_sub hl [1, 2, 0, 3] rfl) h
          · have h := mo_t hc h
            refine lv_iload (pc := 36) hx hb d_bm_wanted_36 (lv_at hl 3 rfl) ?_
            exact mo_retIr hx hb hr hlocks hQ h d_bm_wanted_38
        · have h := mo_t hc h
          refine lv_goto (pc := 27) (tgt := 42) hx hb d_bm_wanted_27 rfl ?_
          exact B42 z11_4 _ (lv_sub hl [0, 1, 2, 3] rfl) h
    ) _ _ h _ (lv_sub hl [4, 2, 1, 0] rfl)
set_option maxRecDepth 100000 in
set_option maxHeartbeats 4000000 in
theorem c_bm_parentOf (l : Launch) (D : va_G) (cI cL cZ : ClassId) (a_this : Nat) (a_blocks : Nat) (a_blocks_parentCounts : Nat) (a_blocks_parents : Nat) (a_transactions : Nat) (a_plan : Nat) (a_templatePlan : Nat) (a_dag : Nat) (a_orphans : Nat) (a_ledger : Nat) (a_pooled : Nat) (a_ahead : Nat) (a_blocks_includedCounts : Nat) (a_blocks_included : Nat) (a_blocks_locks : Nat) (a_blocks_hashes : Nat) (v_blocks_made : Int32) (f_blocks_parentCounts : Nat → Int32) (f_blocks_parents : Nat → Int32) (x1 : Int32) (x2 : Int32) (o : Int32) (h : m_bm_parentOf v_blocks_made f_blocks_parentCounts f_blocks_parents x1 x2 = some o) : Met l y_bm_parentOf (Cond.code y_bm_parentOf b_bm_parentOf 3 (some .int) :: WG) rm_bm_parentOf (va_Pc [.ref a_this, .int x1, .int x2] (mo_Pr D [(cI, .int), (cL, .long), (cZ, .boolean)] [(a_this, .inr (0, [.ref a_transactions, .ref a_blocks, .ref a_plan, .ref a_templatePlan, .ref a_dag, .ref a_orphans, .ref a_ledger, .ref a_pooled, .ref a_ahead])), (a_blocks, .inr (2, [.int v_blocks_made, .ref a_blocks_parentCounts, .ref a_blocks_parents, .ref a_blocks_includedCounts, .ref a_blocks_included, .ref a_blocks_locks, .ref a_blocks_hashes])), (a_blocks_parentCounts, .inl (cI, 60, .inl f_blocks_parentCounts)), (a_blocks_parents, .inl (cI, 240, .inl f_blocks_parents))])) (mo_Qr (some (.int o))) 0 0 (fun _ => False) := by
  refine mo_start (by decide) (Nat.le_of_ble_eq_true rfl) ?_
  intro p e s m args below meth c hx hb hr hlocks hml hown hw hv ls hl Q hQ
  obtain ⟨hP, hK, hN⟩ := hv
  have hl : lv_has ls 3 [(0, .ref a_this), (1, .int x1), (2, .int x2)] := hl
  unfold m_bm_parentOf at h
  refine lv_aload_n (pc := 0) hx hb d_bm_parentOf_0 rfl (lv_at hl 0 rfl) ?_
  refine gf_bm_19 (pc := 1) hx hb hw hN hown hK hP 0 rfl rfl d_bm_parentOf_1 ?_
  refine lv_iload_n (pc := 4) hx hb d_bm_parentOf_4 rfl (lv_at hl 1 rfl) ?_
  obtain ⟨r5, hr5, h⟩ := mo_bd_e h
  refine mo_rV (pc := 5) (As := [.int x1]) (rest := []) (st1 := [.int r5]) ⟨hx, hb, hml, hown, hw⟩ (c_bl_has l D cI cL cZ a_blocks a_blocks_parentCounts a_blocks_parents a_blocks_includedCounts a_blocks_included a_blocks_locks a_blocks_hashes v_blocks_made x1 r5 hr5) (kV_bm_99 hw ⟨by decide, by decide⟩) (hP.sub [1] rfl) hK hN rfl rfl rfl hl.1 rfl rfl d_bm_parentOf_5 rfl ?_
  refine lv_if_eq (pc := 8) (tgt := 28) hx hb d_bm_parentOf_8 rfl (fun hc => ?_) (fun hc => ?_)
  · have h := mo_t hc h
    refine lv_iconst (pc := 28) (v := (-1)) hx hb d_bm_parentOf_28 (by decide) ?_
    exact mo_retIr hx hb hr hlocks hQ h d_bm_parentOf_29
  · have h := mo_f hc h
    refine lv_iload_n (pc := 11) hx hb d_bm_parentOf_11 rfl (lv_at hl 2 rfl) ?_
    refine lv_if_lt (pc := 12) (tgt := 28) hx hb d_bm_parentOf_12 rfl (fun hc => ?_) (fun hc => ?_)
    · have h := mo_t hc h
      refine lv_iconst (pc := 28) (v := (-1)) hx hb d_bm_parentOf_28 (by decide) ?_
      exact mo_retIr hx hb hr hlocks hQ h d_bm_parentOf_29
    · have h := mo_f hc h
      refine lv_iload_n (pc := 15) hx hb d_bm_parentOf_15 rfl (lv_at hl 2 rfl) ?_
      refine lv_aload_n (pc := 16) hx hb d_bm_parentOf_16 rfl (lv_at hl 0 rfl) ?_
      refine gf_bm_19 (pc := 17) hx hb hw hN hown hK hP 0 rfl rfl d_bm_parentOf_17 ?_
      refine gf_bm_213 (pc := 20) hx hb hw hN hown hK hP 1 rfl rfl d_bm_parentOf_20 ?_
      refine lv_iload_n (pc := 23) hx hb d_bm_parentOf_23 rfl (lv_at hl 1 rfl) ?_
      obtain ⟨v24, hi24, e24, h⟩ := mo_rI_e h
      refine mo_iald (pc := 24) hx hb hK hP 2 0 rfl rfl hi24 e24 d_bm_parentOf_24 ?_
      refine lv_icmp_lt (pc := 25) (tgt := 30) hx hb d_bm_parentOf_25 rfl (fun hc => ?_) (fun hc => ?_)
      · have h := mo_t hc h
        refine lv_aload_n (pc := 30) hx hb d_bm_parentOf_30 rfl (lv_at hl 0 rfl) ?_
        refine gf_bm_19 (pc := 31) hx hb hw hN hown hK hP 0 rfl rfl d_bm_parentOf_31 ?_
        refine lv_iload_n (pc := 34) hx hb d_bm_parentOf_34 rfl (lv_at hl 1 rfl) ?_
        refine lv_iload_n (pc := 35) hx hb d_bm_parentOf_35 rfl (lv_at hl 2 rfl) ?_
        obtain ⟨r36, hr36, h⟩ := mo_bd_e h
        refine mo_rV (pc := 36) (As := [.int x1, .int x2]) (rest := []) (st1 := [.int r36]) ⟨hx, hb, hml, hown, hw⟩ (c_bl_parentAt l D cI cL cZ a_blocks a_blocks_parents a_blocks_parentCounts a_blocks_includedCounts a_blocks_included a_blocks_locks a_blocks_hashes v_blocks_made f_blocks_parents x1 x2 r36 hr36) (kV_bm_216 hw ⟨by decide, by decide⟩) (hP.sub [1, 3] rfl) hK hN rfl rfl rfl hl.1 rfl rfl d_bm_parentOf_36 rfl ?_
        exact mo_retIr hx hb hr hlocks hQ h d_bm_parentOf_39
      · have h := mo_f hc h
        refine lv_iconst (pc := 28) (v := (-1)) hx hb d_bm_parentOf_28 (by decide) ?_
        exact mo_retIr hx hb hr hlocks hQ h d_bm_parentOf_29
set_option maxRecDepth 100000 in
set_option maxHeartbeats 4000000 in
theorem c_tr_lastId (l : Launch) (D : va_G) (cI cL cZ : ClassId) (a_this : Nat) (a_ids : Nat) (a_inputCounts : Nat) (a_inputSlots : Nat) (a_inputFingerprints : Nat) (a_inputOutputs : Nat) (a_inputSecrets : Nat) (a_inputLocks : Nat) (a_outputCounts : Nat) (a_outputLocks : Nat) (a_outputAmounts : Nat) (v_made : Int32) (f_ids : Nat → Int32) (o : Int32) (h : m_tr_lastId v_made f_ids = some o) : Met l y_tr_lastId (Cond.code y_tr_lastId b_tr_lastId 1 (some .int) :: WG) rm_tr_lastId (va_Pc [.ref a_this] (mo_Pr D [(cI, .int), (cL, .long), (cZ, .boolean)] [(a_this, .inr (6, [.int v_made, .ref a_ids, .ref a_inputCounts, .ref a_inputSlots, .ref a_inputFingerprints, .ref a_inputOutputs, .ref a_inputSecrets, .ref a_inputLocks, .ref a_outputCounts, .ref a_outputLocks, .ref a_outputAmounts])), (a_ids, .inl (cI, 41, .inl f_ids))])) (mo_Qr (some (.int o))) 0 0 (fun _ => False) := by
  refine mo_start (by decide) (Nat.le_of_ble_eq_true rfl) ?_
  intro p e s m args below meth c hx hb hr hlocks hml hown hw hv ls hl Q hQ
  obtain ⟨hP, hK, hN⟩ := hv
  have hl : lv_has ls 1 [(0, .ref a_this)] := hl
  unfold m_tr_lastId at h
  refine lv_aload_n (pc := 0) hx hb d_tr_lastId_0 rfl (lv_at hl 0 rfl) ?_
  refine gf_tr_42 (pc := 1) hx hb hw hN hown hK hP 0 rfl rfl d_tr_lastId_1 ?_
  refine lv_if_ne (pc := 4) (tgt := 11) hx hb d_tr_lastId_4 rfl (fun hc => ?_) (fun hc => ?_)
  · have h := mo_f hc h
    refine lv_aload_n (pc := 11) hx hb d_tr_lastId_11 rfl (lv_at hl 0 rfl) ?_
    refine gf_tr_11 (pc := 12) hx hb hw hN hown hK hP 0 rfl rfl d_tr_lastId_12 ?_
    refine lv_aload_n (pc := 15) hx hb d_tr_lastId_15 rfl (lv_at hl 0 rfl) ?_
    refine gf_tr_42 (pc := 16) hx hb hw hN hown hK hP 0 rfl rfl d_tr_lastId_16 ?_
    refine lv_iconst (pc := 19) (v := 1) hx hb d_tr_lastId_19 (by decide) ?_
    refine lv_isub (pc := 20) hx hb d_tr_lastId_20 ?_
    obtain ⟨v21, hi21, e21, h⟩ := mo_rI_e h
    refine mo_iald (pc := 21) hx hb hK hP 1 0 rfl rfl hi21 e21 d_tr_lastId_21 ?_
    exact mo_retIr hx hb hr hlocks hQ h d_tr_lastId_22
  · have h := mo_t hc h
    refine lv_iconst (pc := 7) (v := 0) hx hb d_tr_lastId_7 (by decide) ?_
    refine lv_goto (pc := 8) (tgt := 22) hx hb d_tr_lastId_8 rfl ?_
    exact mo_retIr hx hb hr hlocks hQ h d_tr_lastId_22
set_option maxRecDepth 100000 in
set_option maxHeartbeats 4000000 in
theorem c_bm_count (l : Launch) (D : va_G) (cI cL cZ : ClassId) (a_this : Nat) (a_transactions : Nat) (a_blocks : Nat) (a_dag : Nat) (a_orphans : Nat) (a_pooled : Nat) (a_ledger : Nat) (a_dag_scores : Nat) (a_dag_selected : Nat) (a_transactions_ids : Nat) (a_plan : Nat) (a_templatePlan : Nat) (a_ahead : Nat) (a_transactions_inputCounts : Nat) (a_transactions_inputSlots : Nat) (a_transactions_inputFingerprints : Nat) (a_transactions_inputOutputs : Nat) (a_transactions_inputSecrets : Nat) (a_transactions_inputLocks : Nat) (a_transactions_outputCounts : Nat) (a_transactions_outputLocks : Nat) (a_transactions_outputAmounts : Nat) (a_blocks_parentCounts : Nat) (a_blocks_parents : Nat) (a_blocks_includedCounts : Nat) (a_blocks_included : Nat) (a_blocks_locks : Nat) (a_blocks_hashes : Nat) (a_dag_past : Nat) (a_dag_future : Nat) (a_dag_blues : Nat) (a_dag_sequence : Nat) (a_dag_sorted : Nat) (a_orphans_held : Nat) (a_pooled_held : Nat) (a_ledger_amounts : Nat) (v_transactions_made : Int32) (v_blocks_made : Int32) (v_dag_k : Int32) (v_dag_members : Int64) (v_dag_tips : Int64) (v_orphans_size : Int32) (v_pooled_size : Int32) (v_ledger_accepted : Int64) (f_dag_scores : Nat → Int32) (f_dag_selected : Nat → Int32) (f_transactions_ids : Nat → Int32) (x1 : Int32) (o : Int32) (h : m_bm_count v_transactions_made v_blocks_made v_dag_members v_dag_tips v_orphans_size v_pooled_size v_ledger_accepted f_dag_scores f_dag_selected f_transactions_ids x1 = some o) : Met l y_bm_count (Cond.code y_bm_count b_bm_count 2 (some .int) :: WG) rm_bm_count (va_Pc [.ref a_this, .int x1] (mo_Pr D [(cI, .int), (cL, .long), (cZ, .boolean)] [(a_this, .inr (0, [.ref a_transactions, .ref a_blocks, .ref a_plan, .ref a_templatePlan, .ref a_dag, .ref a_orphans, .ref a_ledger, .ref a_pooled, .ref a_ahead])), (a_transactions, .inr (6, [.int v_transactions_made, .ref a_transactions_ids, .ref a_transactions_inputCounts, .ref a_transactions_inputSlots, .ref a_transactions_inputFingerprints, .ref a_transactions_inputOutputs, .ref a_transactions_inputSecrets, .ref a_transactions_inputLocks, .ref a_transactions_outputCounts, .ref a_transactions_outputLocks, .ref a_transactions_outputAmounts])), (a_blocks, .inr (2, [.int v_blocks_made, .ref a_blocks_parentCounts, .ref a_blocks_parents, .ref a_blocks_includedCounts, .ref a_blocks_included, .ref a_blocks_locks, .ref a_blocks_hashes])), (a_dag, .inr (3, [.ref a_blocks, .int v_dag_k, .long v_dag_members, .long v_dag_tips, .ref a_dag_past, .ref a_dag_future, .ref a_dag_blues, .ref a_dag_scores, .ref a_dag_selected, .ref a_dag_sequence, .ref a_dag_sorted])), (a_orphans, .inr (5, [.ref a_orphans_held, .int v_orphans_size])), (a_pooled, .inr (5, [.ref a_pooled_held, .int v_pooled_size])), (a_ledger, .inr (4, [.ref a_transactions, .ref a_blocks, .ref a_ledger_amounts, .long v_ledger_accepted])), (a_dag_scores, .inl (cI, 61, .inl f_dag_scores)), (a_dag_selected, .inl (cI, 61, .inl f_dag_selected)), (a_transactions_ids, .inl (cI, 41, .inl f_transactions_ids))])) (mo_Qr (some (.int o))) 0 0 (fun _ => False) := by
  refine mo_start (by decide) (Nat.le_of_ble_eq_true rfl) ?_
  intro p e s m args below meth c hx hb hr hlocks hml hown hw hv ls hl Q hQ
  obtain ⟨hP, hK, hN⟩ := hv
  have hl : lv_has ls 2 [(0, .ref a_this), (1, .int x1)] := hl
  unfold m_bm_count at h
  refine lv_iload_n (pc := 0) hx hb d_bm_count_0 rfl (lv_at hl 1 rfl) ?_
  by_cases c0 : x1 = 0
  · have h := mo_t c0 h
    refine lv_tableIn (pc := 1) (off := 55) (tgt := 56) hx hb d_bm_count_1 (by rw [c0]; decide) (by rw [c0]; decide) (by rw [c0]; rfl) rfl ?_
    refine lv_aload_n (pc := 56) hx hb d_bm_count_56 rfl (lv_at hl 0 rfl) ?_
    refine gf_bm_12 (pc := 57) hx hb hw hN hown hK hP 0 rfl rfl d_bm_count_57 ?_
    refine gf_bm_219 (pc := 60) hx hb hw hN hown hK hP 1 rfl rfl d_bm_count_60 ?_
    exact mo_retIr hx hb hr hlocks hQ h d_bm_count_63
  · have h := mo_f c0 h
    by_cases c1 : x1 = 1
    · have h := mo_t c1 h
      refine lv_tableIn (pc := 1) (off := 63) (tgt := 64) hx hb d_bm_count_1 (by rw [c1]; decide) (by rw [c1]; decide) (by rw [c1]; rfl) rfl ?_
      refine lv_aload_n (pc := 64) hx hb d_bm_count_64 rfl (lv_at hl 0 rfl) ?_
      refine gf_bm_19 (pc := 65) hx hb hw hN hown hK hP 0 rfl rfl d_bm_count_65 ?_
      refine gf_bm_222 (pc := 68) hx hb hw hN hown hK hP 2 rfl rfl d_bm_count_68 ?_
      exact mo_retIr hx hb hr hlocks hQ h d_bm_count_71
    · have h := mo_f c1 h
      by_cases c2 : x1 = 2
      · have h := mo_t c2 h
        refine lv_tableIn (pc := 1) (off := 71) (tgt := 72) hx hb d_bm_count_1 (by rw [c2]; decide) (by rw [c2]; decide) (by rw [c2]; rfl) rfl ?_
        refine lv_aload_n (pc := 72) hx hb d_bm_count_72 rfl (lv_at hl 0 rfl) ?_
        refine gf_bm_38 (pc := 73) hx hb hw hN hown hK hP 0 rfl rfl d_bm_count_73 ?_
        obtain ⟨r76, hr76, h⟩ := mo_bd_e h
        refine mo_rV (pc := 76) (As := []) (rest := []) (st1 := [.int r76]) ⟨hx, hb, hml, hown, hw⟩ (c_dg_size l D cI cL cZ a_dag a_blocks a_dag_past a_dag_future a_dag_blues a_dag_scores a_dag_selected a_dag_sequence a_dag_sorted v_dag_k v_dag_members v_dag_tips r76 hr76) (kV_bm_197 hw ⟨by decide, by decide⟩) (hP.sub [3] rfl) hK hN rfl rfl rfl hl.1 rfl rfl d_bm_count_76 rfl ?_
        exact mo_retIr hx hb hr hlocks hQ h d_bm_count_79
      · have h := mo_f c2 h
        by_cases c3 : x1 = 3
        · have h := mo_t c3 h
          refine lv_tableIn (pc := 1) (off := 79) (tgt := 80) hx hb d_bm_count_1 (by rw [c3]; decide) (by rw [c3]; decide) (by rw [c3]; rfl) rfl ?_
          refine lv_aload_n (pc := 80) hx hb d_bm_count_80 rfl (lv_at hl 0 rfl) ?_
          refine gf_bm_38 (pc := 81) hx hb hw hN hown hK hP 0 rfl rfl d_bm_count_81 ?_
          refine gf_bm_130 (pc := 84) hx hb hw hN hown hK hP 3 rfl rfl d_bm_count_84 ?_
          obtain ⟨r87, hr87, h⟩ := mo_bd_e h
          refine mo_rS (pc := 87) (As := [.long v_dag_tips]) (rest := []) (st1 := [.int r87]) ⟨hx, hb, hml, hown, hw⟩ (c_jl_bitCount l D cI cL cZ v_dag_tips r87 hr87) (kS_bm_192 hw ⟨by decide, by decide⟩) mo_P0 hK hN rfl hl.1 rfl rfl d_bm_count_87 rfl ?_
          exact mo_retIr hx hb hr hlocks hQ h d_bm_count_90
        · have h := mo_f c3 h
          by_cases c4 : x1 = 4
          · have h := mo_t c4 h
            refine lv_tableIn (pc := 1) (off := 90) (tgt := 91) hx hb d_bm_count_1 (by rw [c4]; decide) (by rw [c4]; decide) (by rw [c4]; rfl) rfl ?_
            refine lv_aload_n (pc := 91) hx hb d_bm_count_91 rfl (lv_at hl 0 rfl) ?_
            refine gf_bm_47 (pc := 92) hx hb hw hN hown hK hP 0 rfl rfl d_bm_count_92 ?_
            refine gf_bm_112 (pc := 95) hx hb hw hN hown hK hP 4 rfl rfl d_bm_count_95 ?_
            exact mo_retIr hx hb hr hlocks hQ h d_bm_count_98
          · have h := mo_f c4 h
            by_cases c5 : x1 = 5
            · have h := mo_t c5 h
              refine lv_tableIn (pc := 1) (off := 98) (tgt := 99) hx hb d_bm_count_1 (by rw [c5]; decide) (by rw [c5]; decide) (by rw [c5]; rfl) rfl ?_
              refine lv_aload_n (pc := 99) hx hb d_bm_count_99 rfl (lv_at hl 0 rfl) ?_
              refine gf_bm_60 (pc := 100) hx hb hw hN hown hK hP 0 rfl rfl d_bm_count_100 ?_
              refine gf_bm_112 (pc := 103) hx hb hw hN hown hK hP 5 rfl rfl d_bm_count_103 ?_
              exact mo_retIr hx hb hr hlocks hQ h d_bm_count_106
            · have h := mo_f c5 h
              by_cases c6 : x1 = 6
              · have h := mo_t c6 h
                refine lv_tableIn (pc := 1) (off := 106) (tgt := 107) hx hb d_bm_count_1 (by rw [c6]; decide) (by rw [c6]; decide) (by rw [c6]; rfl) rfl ?_
                refine lv_aload_n (pc := 107) hx hb d_bm_count_107 rfl (lv_at hl 0 rfl) ?_
                refine gf_bm_56 (pc := 108) hx hb hw hN hown hK hP 0 rfl rfl d_bm_count_108 ?_
                refine gf_bm_223 (pc := 111) hx hb hw hN hown hK hP 6 rfl rfl d_bm_count_111 ?_
                obtain ⟨r114, hr114, h⟩ := mo_bd_e h
                refine mo_rS (pc := 114) (As := [.long v_ledger_accepted]) (rest := []) (st1 := [.int r114]) ⟨hx, hb, hml, hown, hw⟩ (c_jl_bitCount l D cI cL cZ v_ledger_accepted r114 hr114) (kS_bm_192 hw ⟨by decide, by decide⟩) mo_P0 hK hN rfl hl.1 rfl rfl d_bm_count_114 rfl ?_
                exact mo_retIr hx hb hr hlocks hQ h d_bm_count_117
              · have h := mo_f c6 h
                by_cases c7 : x1 = 7
                · have h := mo_t c7 h
                  refine lv_tableIn (pc := 1) (off := 117) (tgt := 118) hx hb d_bm_count_1 (by rw [c7]; decide) (by rw [c7]; decide) (by rw [c7]; rfl) rfl ?_
                  refine lv_aload_n (pc := 118) hx hb d_bm_count_118 rfl (lv_at hl 0 rfl) ?_
                  refine gf_bm_38 (pc := 119) hx hb hw hN hown hK hP 0 rfl rfl d_bm_count_119 ?_
                  refine gf_bm_180 (pc := 122) hx hb hw hN hown hK hP 3 rfl rfl d_bm_count_122 ?_
                  refine lv_bipush (pc := 125) (v := 60) hx hb d_bm_count_125 (by decide) ?_
                  obtain ⟨v127, hi127, e127, h⟩ := mo_rI_e h
                  refine mo_iald (pc := 127) hx hb hK hP 7 0 rfl rfl hi127 e127 d_bm_count_127 ?_
                  exact mo_retIr hx hb hr hlocks hQ h d_bm_count_128
                · have h := mo_f c7 h
                  by_cases c8 : x1 = 8
                  · have h := mo_t c8 h
                    refine lv_tableIn (pc := 1) (off := 128) (tgt := 129) hx hb d_bm_count_1 (by rw [c8]; decide) (by rw [c8]; decide) (by rw [c8]; rfl) rfl ?_
                    refine lv_aload_n (pc := 129) hx hb d_bm_count_129 rfl (lv_at hl 0 rfl) ?_
                    refine gf_bm_38 (pc := 130) hx hb hw hN hown hK hP 0 rfl rfl d_bm_count_130 ?_
                    refine gf_bm_183 (pc := 133) hx hb hw hN hown hK hP 3 rfl rfl d_bm_count_133 ?_
                    refine lv_bipush (pc := 136) (v := 60) hx hb d_bm_count_136 (by decide) ?_
                    obtain ⟨v138, hi138, e138, h⟩ := mo_rI_e h
                    refine mo_iald (pc := 138) hx hb hK hP 8 0 rfl rfl hi138 e138 d_bm_count_138 ?_
                    exact mo_retIr hx hb hr hlocks hQ h d_bm_count_139
                  · have h := mo_f c8 h
                    by_cases c9 : x1 = 9
                    · have h := mo_t c9 h
                      refine lv_tableIn (pc := 1) (off := 139) (tgt := 140) hx hb d_bm_count_1 (by rw [c9]; decide) (by rw [c9]; decide) (by rw [c9]; rfl) rfl ?_
                      refine lv_aload_n (pc := 140) hx hb d_bm_count_140 rfl (lv_at hl 0 rfl) ?_
                      refine gf_bm_12 (pc := 141) hx hb hw hN hown hK hP 0 rfl rfl d_bm_count_141 ?_
                      obtain ⟨r144, hr144, h⟩ := mo_bd_e h
                      refine mo_rV (pc := 144) (As := []) (rest := []) (st1 := [.int r144]) ⟨hx, hb, hml, hown, hw⟩ (c_tr_lastId l D cI cL cZ a_transactions a_transactions_ids a_transactions_inputCounts a_transactions_inputSlots a_transactions_inputFingerprints a_transactions_inputOutputs a_transactions_inputSecrets a_transactions_inputLocks a_transactions_outputCounts a_transactions_outputLocks a_transactions_outputAmounts v_transactions_made f_transactions_ids r144 hr144) (kV_bm_226 hw ⟨by decide, by decide⟩) (hP.sub [1, 9] rfl) hK hN rfl rfl rfl hl.1 rfl rfl d_bm_count_144 rfl ?_
                      exact mo_retIr hx hb hr hlocks hQ h d_bm_count_147
                    · have h := mo_f c9 h
                      refine lv_tableOut (pc := 1) (tgt := 148) hx hb d_bm_count_1 (by have n0 : x1.toInt ≠ 0 := mo_ne c0; have n1 : x1.toInt ≠ 1 := mo_ne c1; have n2 : x1.toInt ≠ 2 := mo_ne c2; have n3 : x1.toInt ≠ 3 := mo_ne c3; have n4 : x1.toInt ≠ 4 := mo_ne c4; have n5 : x1.toInt ≠ 5 := mo_ne c5; have n6 : x1.toInt ≠ 6 := mo_ne c6; have n7 : x1.toInt ≠ 7 := mo_ne c7; have n8 : x1.toInt ≠ 8 := mo_ne c8; have n9 : x1.toInt ≠ 9 := mo_ne c9; omega) rfl ?_
                      refine lv_iconst (pc := 148) (v := (-1)) hx hb d_bm_count_148 (by decide) ?_
                      exact mo_retIr hx hb hr hlocks hQ h d_bm_count_149
set_option maxRecDepth 100000 in
set_option maxHeartbeats 4000000 in
theorem c_le_sum (l : Launch) (D : va_G) (cI cL cZ : ClassId) (a_this : Nat) (a_amounts : Nat) (a_transactions : Nat) (a_blocks : Nat) (v_accepted : Int64) (f_amounts : Nat → Int32) (o : Int32) (h : m_le_sum f_amounts = some o) : Met l y_le_sum (Cond.code y_le_sum b_le_sum 3 (some .int) :: WG) rm_le_sum (va_Pc [.ref a_this] (mo_Pr D [(cI, .int), (cL, .long), (cZ, .boolean)] [(a_this, .inr (4, [.ref a_transactions, .ref a_blocks, .ref a_amounts, .long v_accepted])), (a_amounts, .inl (cI, 140, .inl f_amounts))])) (mo_Qr (some (.int o))) 0 0 (fun _ => False) := by
  refine mo_start (by decide) (Nat.le_of_ble_eq_true rfl) ?_
  intro p e s m args below meth c hx hb hr hlocks hml hown hw hv ls hl Q hQ
  obtain ⟨hP, hK, hN⟩ := hv
  have hl : lv_has ls 3 [(0, .ref a_this)] := hl
  unfold m_le_sum at h
  refine lv_iconst (pc := 0) (v := 0) hx hb d_le_sum_0 (by decide) ?_
  refine lv_istore_n (pc := 1) (lv' := [(1, .int 0), (0, .ref a_this)]) hx hb d_le_sum_1 rfl hl (by decide) rfl (fun ls hl => ?_)
  refine lv_iconst (pc := 2) (v := 0) hx hb d_le_sum_2 (by decide) ?_
  refine lv_istore_n (pc := 3) (lv' := [(2, .int 0), (1, .int 0), (0, .ref a_this)]) hx hb d_le_sum_3 rfl hl (by decide) rfl (fun ls hl => ?_)
  obtain ⟨w4, K4, eK4, hy4, hr4⟩ := mo_bd_k h
  have E4 : ∀ (y4_1 : Int32) (ls : Array Slot) (hl : lv_has ls 3 [(1, .int y4_1)]) (h : K4 y4_1 = some o), W p l e rm_le_sum s m args below meth c s.heap [] 0 0 Q (F0 m 30 ls []) := by
    intro y4_1 ls hl h
    have h := mo_a1 eK4 h
    try dsimp only at h
    refine lv_iload_n (pc := 30) hx hb d_le_sum_30 rfl (lv_at hl 0 rfl) ?_
    exact mo_retIr hx hb hr hlocks hQ h d_le_sum_31
  exact mo_lp_i (step := (m_le_sum_L4 f_amounts)) (o := w4) (fun (x : Int32 × Int32) => match x with | (z4_1, z4_2) => ∀ (ls : Array Slot) (hl : lv_has ls 3 [(0, .ref a_this), (1, .int z4_1), (2, .int z4_2)]), W p l e rm_le_sum s m args below meth c s.heap [] 0 0 Q (F0 m 4 ls [])) (by
      rintro bk4 hb4 ⟨z4_1, z4_2⟩ h ls hl
      unfold m_le_sum_L4 at h
      try dsimp only at h
      refine lv_iload_n (pc := 4) hx hb d_le_sum_4 rfl (lv_at hl 2 rfl) ?_
      refine lv_sipush (pc := 5) (v := 140) hx hb d_le_sum_5 (by decide) ?_
      refine lv_icmp_ge (pc := 8) (tgt := 30) hx hb d_le_sum_8 rfl (fun hc => ?_) (fun hc => ?_)
      · have h := mo_t hc h
        exact E4 z4_1 _ (lv_sub hl [1] rfl) (by rw [Option.some.inj h]; exact hr4)
      · have h := mo_f hc h
        refine lv_iload_n (pc := 11) hx hb d_le_sum_11 rfl (lv_at hl 1 rfl) ?_
        refine lv_aload_n (pc := 12) hx hb d_le_sum_12 rfl (lv_at hl 0 rfl) ?_
        refine gf_le_9 (pc := 13) hx hb hw hN hown hK hP 0 rfl rfl d_le_sum_13 ?_
        refine lv_iload_n (pc := 16) hx hb d_le_sum_16 rfl (lv_at hl 2 rfl) ?_
        obtain ⟨v17, hi17, e17, h⟩ := mo_rI_e h
        refine mo_iald (pc := 17) hx hb hK hP 1 0 rfl rfl hi17 e17 d_le_sum_17 ?_
        refine lv_iconst (pc := 18) (v := 0) hx hb d_le_sum_18 (by decide) ?_
        refine mo_mmax' (pc := 19) hx hb (hml.trans hl.1.symm) hown hw wd_2_93 wd_2_94 wd_1_11 wd_2_95 d_le_sum_19 rfl rfl ?_
        refine lv_iadd (pc := 22) hx hb d_le_sum_22 ?_
        refine lv_istore_n (pc := 23) (lv' := [(1, .int (z4_1 + (mo_max v17 0))), (0, .ref a_this), (2, .int z4_2)]) hx hb d_le_sum_23 rfl hl (by decide) rfl (fun ls hl => ?_)
        refine lv_iinc (pc := 24) (k := 2) (v := z4_2 + 1) (lv' := [(2, .int (z4_2 + 1)), (1, .int (z4_1 + (mo_max v17 0))), (0, .ref a_this)]) hx hb d_le_sum_24 hl rfl (mo_inc1 _) (by decide) rfl (fun ls hl => ?_)
        refine lv_goto (pc := 27) (tgt := 4) hx hb d_le_sum_27 rfl ?_
        exact hb4 (z4_1 + (mo_max v17 0), z4_2 + 1) h _ (lv_sub hl [2, 1, 0] rfl)
    ) _ _ hy4 _ (lv_sub hl [2, 1, 0] rfl)
set_option maxRecDepth 100000 in
set_option maxHeartbeats 4000000 in
theorem c_bm_total (l : Launch) (D : va_G) (cI cL cZ : ClassId) (a_this : Nat) (a_ledger : Nat) (a_ledger_amounts : Nat) (a_transactions : Nat) (a_blocks : Nat) (a_plan : Nat) (a_templatePlan : Nat) (a_dag : Nat) (a_orphans : Nat) (a_pooled : Nat) (a_ahead : Nat) (v_ledger_accepted : Int64) (f_ledger_amounts : Nat → Int32) (o : Int32) (h : m_bm_total f_ledger_amounts = some o) : Met l y_bm_total (Cond.code y_bm_total b_bm_total 1 (some .int) :: WG) rm_bm_total (va_Pc [.ref a_this] (mo_Pr D [(cI, .int), (cL, .long), (cZ, .boolean)] [(a_this, .inr (0, [.ref a_transactions, .ref a_blocks, .ref a_plan, .ref a_templatePlan, .ref a_dag, .ref a_orphans, .ref a_ledger, .ref a_pooled, .ref a_ahead])), (a_ledger, .inr (4, [.ref a_transactions, .ref a_blocks, .ref a_ledger_amounts, .long v_ledger_accepted])), (a_ledger_amounts, .inl (cI, 140, .inl f_ledger_amounts))])) (mo_Qr (some (.int o))) 0 0 (fun _ => False) := by
  refine mo_start (by decide) (Nat.le_of_ble_eq_true rfl) ?_
  intro p e s m args below meth c hx hb hr hlocks hml hown hw hv ls hl Q hQ
  obtain ⟨hP, hK, hN⟩ := hv
  have hl : lv_has ls 1 [(0, .ref a_this)] := hl
  unfold m_bm_total at h
  refine lv_aload_n (pc := 0) hx hb d_bm_total_0 rfl (lv_at hl 0 rfl) ?_
  refine gf_bm_56 (pc := 1) hx hb hw hN hown hK hP 0 rfl rfl d_bm_total_1 ?_
  obtain ⟨r4, hr4, h⟩ := mo_bd_e h
  refine mo_rV (pc := 4) (As := []) (rest := []) (st1 := [.int r4]) ⟨hx, hb, hml, hown, hw⟩ (c_le_sum l D cI cL cZ a_ledger a_ledger_amounts a_transactions a_blocks v_ledger_accepted f_ledger_amounts r4 hr4) (kV_bm_229 hw ⟨by decide, by decide⟩) (hP.sub [1, 2] rfl) hK hN rfl rfl rfl hl.1 rfl rfl d_bm_total_4 rfl ?_
  exact mo_retIr hx hb hr hlocks hQ h d_bm_total_7
set_option maxRecDepth 100000 in
set_option maxHeartbeats 4000000 in
theorem c_mm_mix (l : Launch) (D : va_G) (cI cL cZ : ClassId) (x0 : Int32) (x1 : Int32) (o : Int32) (h : m_mm_mix x0 x1 = some o) : Met l y_mm_mix (Cond.code y_mm_mix b_mm_mix 3 (some .int) :: WG) rm_mm_mix (va_Pc [.int x0, .int x1] (mo_Pr D [(cI, .int), (cL, .long), (cZ, .boolean)] [])) (mo_Qr (some (.int o))) 0 0 (fun _ => False) := by
  refine mo_start (by decide) (Nat.le_of_ble_eq_true rfl) ?_
  intro p e s m args below meth c hx hb hr hlocks hml hown hw hv ls hl Q hQ
  obtain ⟨hP, hK, hN⟩ := hv
  have hl : lv_has ls 3 [(0, .int x0), (1, .int x1)] := hl
  unfold m_mm_mix at h
  refine lv_iload_n (pc := 0) hx hb d_mm_mix_0 rfl (lv_at hl 0 rfl) ?_
  refine lv_ldc (pc := 1) (v := 668265263) hx hb hown (hw _ wd_3_122) d_mm_mix_1 ?_
  refine lv_imul (pc := 3) hx hb d_mm_mix_3 ?_
  refine lv_iload_n (pc := 4) hx hb d_mm_mix_4 rfl (lv_at hl 1 rfl) ?_
  refine lv_iadd (pc := 5) hx hb d_mm_mix_5 ?_
  refine lv_istore_n (pc := 6) (lv' := [(2, .int ((x0 * 668265263) + x1)), (0, .int x0), (1, .int x1)]) hx hb d_mm_mix_6 rfl hl (by decide) rfl (fun ls hl => ?_)
  refine lv_iload_n (pc := 7) hx hb d_mm_mix_7 rfl (lv_at hl 0 rfl) ?_
  refine lv_iload_n (pc := 8) hx hb d_mm_mix_8 rfl (lv_at hl 0 rfl) ?_
  refine lv_bipush (pc := 9) (v := 13) hx hb d_mm_mix_9 (by decide) ?_
  refine lv_iushr (pc := 11) hx hb d_mm_mix_11 rfl ?_
  refine lv_ixor (pc := 12) hx hb d_mm_mix_12 ?_
  exact mo_retIr hx hb hr hlocks hQ h d_mm_mix_13
set_option maxRecDepth 100000 in
set_option maxHeartbeats 4000000 in
theorem c_mm_in (l : Launch) (D : va_G) (cI cL cZ : ClassId) (x0 : Int64) (x2 : Int32) (o : Int32) (h : m_mm_in x0 x2 = some o) : Met l y_mm_in (Cond.code y_mm_in b_mm_in 3 (some .boolean) :: WG) rm_mm_in (va_Pc [.long x0, .int x2] (mo_Pr D [(cI, .int), (cL, .long), (cZ, .boolean)] [])) (mo_Qr (some (.int o))) 0 0 (fun _ => False) := by
  refine mo_start (by decide) (Nat.le_of_ble_eq_true rfl) ?_
  intro p e s m args below meth c hx hb hr hlocks hml hown hw hv ls hl Q hQ
  obtain ⟨hP, hK, hN⟩ := hv
  have hl : lv_has ls 3 [(0, .long x0), (2, .int x2)] := hl
  unfold m_mm_in at h
  refine lv_lload_n (pc := 0) hx hb d_mm_in_0 rfl (lv_at hl 0 rfl) ?_
  refine lv_iload_n (pc := 1) hx hb d_mm_in_1 rfl (lv_at hl 1 rfl) ?_
  refine lv_lshr (pc := 2) hx hb d_mm_in_2 rfl ?_
  refine lv_lconst (pc := 3) (v := 1) hx hb d_mm_in_3 (by decide) ?_
  refine lv_land (pc := 4) hx hb d_mm_in_4 ?_
  refine lv_lconst (pc := 5) (v := 1) hx hb d_mm_in_5 (by decide) ?_
  refine mo_lcmpne (pc := 6) (tgt := 14) hx hb d_mm_in_6 d_mm_in_7 rfl (fun hc => ?_) (fun hc => ?_)
  · have h := mo_f hc h
    refine lv_iconst (pc := 14) (v := 0) hx hb d_mm_in_14 (by decide) ?_
    exact mo_retZr (mo_nz (by decide)) hx hb hr hlocks hQ h d_mm_in_15
  · have h := mo_t hc h
    refine lv_iconst (pc := 10) (v := 1) hx hb d_mm_in_10 (by decide) ?_
    refine lv_goto (pc := 11) (tgt := 15) hx hb d_mm_in_11 rfl ?_
    exact mo_retZr (mo_nz (by decide)) hx hb hr hlocks hQ h d_mm_in_15
set_option maxRecDepth 100000 in
set_option maxHeartbeats 4000000 in
theorem c_mm_tips (l : Launch) (D : va_G) (cI cL cZ : ClassId) (a_this : Nat) (a_parents : Nat) (a_parent : Nat) (a_inputs : Nat) (a_outputs : Nat) (a_source : Nat) (a_index : Nat) (a_secret : Nat) (a_lock : Nat) (a_amount : Nat) (a_id : Nat) (a_holds : Nat) (a_held : Nat) (a_blockLock : Nat) (a_hash : Nat) (a_past : Nat) (a_blues : Nat) (a_score : Nat) (a_selected : Nat) (a_orphan : Nat) (a_pool : Nat) (a_order : Nat) (a_merged : Nat) (a_accepted : Nat) (a_free : Nat) (a_coin : Nat) (a_worth : Nat) (v_limit : Int32) (v_made : Int32) (v_blocks : Int32) (v_dag : Int64) (v_orphans : Int32) (v_pooled : Int32) (v_places : Int32) (f_parents : Nat → Int32) (f_parent : Nat → Int32) (o : Int64) (h : m_mm_tips v_blocks v_dag f_parents f_parent = some o) : Met l y_mm_tips (Cond.code y_mm_tips b_mm_tips 5 (some .long) :: WG) rm_mm_tips (va_Pc [.ref a_this] (mo_Pr D [(cI, .int), (cL, .long), (cZ, .boolean)] [(a_this, .inr (7, [.int v_limit, .int v_made, .ref a_inputs, .ref a_outputs, .ref a_source, .ref a_index, .ref a_secret, .ref a_lock, .ref a_amount, .ref a_id, .int v_blocks, .ref a_parents, .ref a_parent, .ref a_holds, .ref a_held, .ref a_blockLock, .ref a_hash, .long v_dag, .ref a_past, .ref a_blues, .ref a_score, .ref a_selected, .int v_orphans, .ref a_orphan, .int v_pooled, .ref a_pool, .int v_places, .ref a_order, .ref a_merged, .ref a_accepted, .ref a_free, .ref a_coin, .ref a_worth])), (a_parents, .inl (cI, 62, .inl f_parents)), (a_parent, .inl (cI, 248, .inl f_parent))])) (mo_Qr (some (.long o))) 0 0 (fun _ => False) := by
  refine mo_start (by decide) (Nat.le_of_ble_eq_true rfl) ?_
  intro p e s m args below meth c hx hb hr hlocks hml hown hw hv ls hl Q hQ
  obtain ⟨hP, hK, hN⟩ := hv
  have hl : lv_has ls 5 [(0, .ref a_this)] := hl
  unfold m_mm_tips at h
  refine lv_aload_n (pc := 0) hx hb d_mm_tips_0 rfl (lv_at hl 0 rfl) ?_
  refine gf_mm_56 (pc := 1) hx hb hw hN hown hK hP 0 rfl rfl d_mm_tips_1 ?_
  refine lv_lstore_n (pc := 4) (lv' := [(1, .long v_dag), (0, .ref a_this)]) hx hb d_mm_tips_4 rfl hl (by decide) rfl (fun ls hl => ?_)
  refine lv_iconst (pc := 5) (v := 0) hx hb d_mm_tips_5 (by decide) ?_
  refine lv_istore_n (pc := 6) (lv' := [(3, .int 0), (1, .long v_dag), (0, .ref a_this)]) hx hb d_mm_tips_6 rfl hl (by decide) rfl (fun ls hl => ?_)
  obtain ⟨w7, K7, eK7, hy7, hr7⟩ := mo_bd_k h
  have E7 : ∀ (y7_1 : Int64) (ls : Array Slot) (hl : lv_has ls 5 [(1, .long y7_1)]) (h : K7 y7_1 = some o), W p l e rm_mm_tips s m args below meth c s.heap [] 0 0 Q (F0 m 72 ls []) := by
    intro y7_1 ls hl h
    have h := mo_a1 eK7 h
    try dsimp only at h
    refine lv_lload_n (pc := 72) hx hb d_mm_tips_72 rfl (lv_at hl 0 rfl) ?_
    exact mo_retLr hx hb hr hlocks hQ h d_mm_tips_73
  exact mo_lp_i (step := (m_mm_tips_L7 v_blocks v_dag f_parents f_parent)) (o := w7) (fun (x : Int64 × Int32) => match x with | (z7_1, z7_3) => ∀ (ls : Array Slot) (hl : lv_has ls 5 [(0, .ref a_this), (1, .long z7_1), (3, .int z7_3)]), W p l e rm_mm_tips s m args below meth c s.heap [] 0 0 Q (F0 m 7 ls [])) (by
      rintro bk7 hb7 ⟨z7_1, z7_3⟩ h ls hl
      unfold m_mm_tips_L7 at h
      try dsimp only at h
      refine lv_iload_n (pc := 7) hx hb d_mm_tips_7 rfl (lv_at hl 2 rfl) ?_
      refine lv_aload_n (pc := 8) hx hb d_mm_tips_8 rfl (lv_at hl 0 rfl) ?_
      refine gf_mm_34 (pc := 9) hx hb hw hN hown hK hP 0 rfl rfl d_mm_tips_9 ?_
      refine lv_icmp_ge (pc := 12) (tgt := 72) hx hb d_mm_tips_12 rfl (fun hc => ?_) (fun hc => ?_)
      · have h := mo_t hc h
        exact E7 z7_1 _ (lv_sub hl [1] rfl) (by rw [Option.some.inj h]; exact hr7)
      · have h := mo_f hc h
        refine lv_iconst (pc := 15) (v := 0) hx hb d_mm_tips_15 (by decide) ?_
        refine lv_istore (pc := 16) (lv' := [(4, .int 0), (0, .ref a_this), (1, .long z7_1), (3, .int z7_3)]) hx hb d_mm_tips_16 hl (by decide) rfl (fun ls hl => ?_)
        obtain ⟨w18, K18, eK18, hy18, hr18⟩ := mo_bd_k h
        have E18 : ∀ (y18_1 : Int64) (ls : Array Slot) (hl : lv_has ls 5 [(0, .ref a_this), (1, .long y18_1), (3, .int z7_3)]) (h : K18 y18_1 = some w7), W p l e rm_mm_tips s m args below meth c s.heap [] 0 0 Q (F0 m 66 ls []) := by
          intro y18_1 ls hl h
          have h := mo_a1 eK18 h
          try dsimp only at h
          refine lv_iinc (pc := 66) (k := 2) (v := z7_3 + 1) (lv' := [(3, .int (z7_3 + 1)), (0, .ref a_this), (1, .long y18_1)]) hx hb d_mm_tips_66 hl rfl (mo_inc1 _) (by decide) rfl (fun ls hl => ?_)
          refine lv_goto (pc := 69) (tgt := 7) hx hb d_mm_tips_69 rfl ?_
          exact hb7 (y18_1, z7_3 + 1) h _ (lv_sub hl [1, 2, 0] rfl)
        exact mo_lp_i (step := (m_mm_tips_L18 v_dag f_parents f_parent z7_3)) (o := w18) (fun (x : Int64 × Int32) => match x with | (z18_1, z18_4) => ∀ (ls : Array Slot) (hl : lv_has ls 5 [(0, .ref a_this), (1, .long z18_1), (3, .int z7_3), (4, .int z18_4)]), W p l e rm_mm_tips s m args below meth c s.heap [] 0 0 Q (F0 m 18 ls [])) (by
            rintro bk18 hb18 ⟨z18_1, z18_4⟩ h ls hl
            unfold m_mm_tips_L18 at h
            try dsimp only at h
            refine lv_iload (pc := 18) hx hb d_mm_tips_18 (lv_at hl 3 rfl) ?_
            refine lv_aload_n (pc := 20) hx hb d_mm_tips_20 rfl (lv_at hl 0 rfl) ?_
            refine gf_mm_38 (pc := 21) hx hb hw hN hown hK hP 0 rfl rfl d_mm_tips_21 ?_
            refine lv_iload_n (pc := 24) hx hb d_mm_tips_24 rfl (lv_at hl 2 rfl) ?_
            obtain ⟨v25, hi25, e25, h⟩ := mo_rI_e h
            refine mo_iald (pc := 25) hx hb hK hP 1 0 rfl rfl hi25 e25 d_mm_tips_25 ?_
            refine lv_icmp_ge (pc := 26) (tgt := 66) hx hb d_mm_tips_26 rfl (fun hc => ?_) (fun hc => ?_)
            · have h := mo_t hc h
              exact E18 z18_1 _ (lv_sub hl [0, 1, 2] rfl) (by rw [Option.some.inj h]; exact hr18)
            · have h := mo_f hc h
              refine lv_aload_n (pc := 29) hx hb d_mm_tips_29 rfl (lv_at hl 0 rfl) ?_
              refine gf_mm_56 (pc := 30) hx hb hw hN hown hK hP 0 rfl rfl d_mm_tips_30 ?_
              refine lv_iload_n (pc := 33) hx hb d_mm_tips_33 rfl (lv_at hl 2 rfl) ?_
              obtain ⟨r34, hr34, h⟩ := mo_bd_e h
              refine mo_rS (pc := 34) (As := [.long v_dag, .int z7_3]) (rest := []) (st1 := [.int r34]) ⟨hx, hb, hml, hown, hw⟩ (c_mm_in l D cI cL cZ v_dag z7_3 r34 hr34) (kS_mm_125 hw ⟨by decide, by decide⟩) mo_P0 hK hN rfl hl.1 rfl rfl d_mm_tips_34 rfl ?_
              refine lv_if_eq (pc := 37) (tgt := 66) hx hb d_mm_tips_37 rfl (fun hc => ?_) (fun hc => ?_)
              · have h := mo_t hc h
                exact E18 z18_1 _ (lv_sub hl [0, 1, 2] rfl) (by rw [Option.some.inj h]; exact hr18)
              · have h := mo_f hc h
                refine lv_lload_n (pc := 40) hx hb d_mm_tips_40 rfl (lv_at hl 1 rfl) ?_
                refine lv_lconst (pc := 41) (v := 1) hx hb d_mm_tips_41 (by decide) ?_
                refine lv_aload_n (pc := 42) hx hb d_mm_tips_42 rfl (lv_at hl 0 rfl) ?_
                refine gf_mm_41 (pc := 43) hx hb hw hN hown hK hP 0 rfl rfl d_mm_tips_43 ?_
                refine lv_iconst (pc := 46) (v := 4) hx hb d_mm_tips_46 (by decide) ?_
                refine lv_iload_n (pc := 47) hx hb d_mm_tips_47 rfl (lv_at hl 2 rfl) ?_
                refine lv_imul (pc := 48) hx hb d_mm_tips_48 ?_
                refine lv_iload (pc := 49) hx hb d_mm_tips_49 (lv_at hl 3 rfl) ?_
                refine lv_iadd (pc := 51) hx hb d_mm_tips_51 ?_
                obtain ⟨v52, hi52, e52, h⟩ := mo_rI_e h
                refine mo_iald (pc := 52) hx hb hK hP 2 0 rfl rfl hi52 e52 d_mm_tips_52 ?_
                refine lv_lshl (pc := 53) hx hb d_mm_tips_53 rfl ?_
                refine lv_ldc2 (pc := 54) (v := (-1)) hx hb hown (hw _ wd_3_135) d_mm_tips_54 ?_
                refine lv_lxor (pc := 57) hx hb d_mm_tips_57 ?_
                refine lv_land (pc := 58) hx hb d_mm_tips_58 ?_
                refine lv_lstore_n (pc := 59) (lv' := [(1, .long (z18_1 &&& (((1 : Int64) <<< (v52.toInt64 &&& 63)) ^^^ ((-1))))), (0, .ref a_this), (3, .int z7_3), (4, .int z18_4)]) hx hb d_mm_tips_59 rfl hl (by decide) rfl (fun ls hl => ?_)
                refine lv_iinc (pc := 60) (k := 3) (v := z18_4 + 1) (lv' := [(4, .int (z18_4 + 1)), (1, .long (z18_1 &&& (((1 : Int64) <<< (v52.toInt64 &&& 63)) ^^^ ((-1))))), (0, .ref a_this), (3, .int z7_3)]) hx hb d_mm_tips_60 hl rfl (mo_inc1 _) (by decide) rfl (fun ls hl => ?_)
                refine lv_goto (pc := 63) (tgt := 18) hx hb d_mm_tips_63 rfl ?_
                exact hb18 (z18_1 &&& (((1 : Int64) <<< (v52.toInt64 &&& 63)) ^^^ ((-1))), z18_4 + 1) h _ (lv_sub hl [2, 1, 3, 0] rfl)
          ) _ _ hy18 _ (lv_sub hl [1, 2, 3, 0] rfl)
    ) _ _ hy7 _ (lv_sub hl [2, 1, 0] rfl)
set_option maxRecDepth 100000 in
set_option maxHeartbeats 4000000 in
theorem c_mm_earlier (l : Launch) (D : va_G) (cI cL cZ : ClassId) (a_this : Nat) (a_hash : Nat) (a_inputs : Nat) (a_outputs : Nat) (a_source : Nat) (a_index : Nat) (a_secret : Nat) (a_lock : Nat) (a_amount : Nat) (a_id : Nat) (a_parents : Nat) (a_parent : Nat) (a_holds : Nat) (a_held : Nat) (a_blockLock : Nat) (a_past : Nat) (a_blues : Nat) (a_score : Nat) (a_selected : Nat) (a_orphan : Nat) (a_pool : Nat) (a_order : Nat) (a_merged : Nat) (a_accepted : Nat) (a_free : Nat) (a_coin : Nat) (a_worth : Nat) (v_limit : Int32) (v_made : Int32) (v_blocks : Int32) (v_dag : Int64) (v_orphans : Int32) (v_pooled : Int32) (v_places : Int32) (f_hash : Nat → Int32) (x1 : Int32) (x2 : Int32) (o : Int32) (h : m_mm_earlier f_hash x1 x2 = some o) : Met l y_mm_earlier (Cond.code y_mm_earlier b_mm_earlier 3 (some .boolean) :: WG) rm_mm_earlier (va_Pc [.ref a_this, .int x1, .int x2] (mo_Pr D [(cI, .int), (cL, .long), (cZ, .boolean)] [(a_this, .inr (7, [.int v_limit, .int v_made, .ref a_inputs, .ref a_outputs, .ref a_source, .ref a_index, .ref a_secret, .ref a_lock, .ref a_amount, .ref a_id, .int v_blocks, .ref a_parents, .ref a_parent, .ref a_holds, .ref a_held, .ref a_blockLock, .ref a_hash, .long v_dag, .ref a_past, .ref a_blues, .ref a_score, .ref a_selected, .int v_orphans, .ref a_orphan, .int v_pooled, .ref a_pool, .int v_places, .ref a_order, .ref a_merged, .ref a_accepted, .ref a_free, .ref a_coin, .ref a_worth])), (a_hash, .inl (cI, 62, .inl f_hash))])) (mo_Qr (some (.int o))) 0 0 (fun _ => False) := by
  refine mo_start (by decide) (Nat.le_of_ble_eq_true rfl) ?_
  intro p e s m args below meth c hx hb hr hlocks hml hown hw hv ls hl Q hQ
  obtain ⟨hP, hK, hN⟩ := hv
  have hl : lv_has ls 3 [(0, .ref a_this), (1, .int x1), (2, .int x2)] := hl
  unfold m_mm_earlier at h
  refine lv_aload_n (pc := 0) hx hb d_mm_earlier_0 rfl (lv_at hl 0 rfl) ?_
  refine gf_mm_53 (pc := 1) hx hb hw hN hown hK hP 0 rfl rfl d_mm_earlier_1 ?_
  refine lv_iload_n (pc := 4) hx hb d_mm_earlier_4 rfl (lv_at hl 1 rfl) ?_
  obtain ⟨v5, hi5, e5, h⟩ := mo_rI_e h
  refine mo_iald (pc := 5) hx hb hK hP 1 0 rfl rfl hi5 e5 d_mm_earlier_5 ?_
  refine lv_aload_n (pc := 6) hx hb d_mm_earlier_6 rfl (lv_at hl 0 rfl) ?_
  refine gf_mm_53 (pc := 7) hx hb hw hN hown hK hP 0 rfl rfl d_mm_earlier_7 ?_
  refine lv_iload_n (pc := 10) hx hb d_mm_earlier_10 rfl (lv_at hl 2 rfl) ?_
  obtain ⟨v11, hi11, e11, h⟩ := mo_rI_e h
  refine mo_iald (pc := 11) hx hb hK hP 1 0 rfl rfl hi11 e11 d_mm_earlier_11 ?_
  obtain ⟨j35, ej35, h⟩ := mo_jn_e h
  have B35 : ∀ (ls : Array Slot) (hl : lv_has ls 3 []) (h : j35 = some o), W p l e rm_mm_earlier s m args below meth c s.heap [] 0 0 Q (F0 m 35 ls []) := by
    intro ls hl h
    have h := mo_a0 ej35 h
    refine lv_iconst (pc := 35) (v := 1) hx hb d_mm_earlier_35 (by decide) ?_
    refine lv_goto (pc := 36) (tgt := 40) hx hb d_mm_earlier_36 rfl ?_
    exact mo_retZr (mo_nz (by decide)) hx hb hr hlocks hQ h d_mm_earlier_40
  refine lv_icmp_lt (pc := 12) (tgt := 35) hx hb d_mm_earlier_12 rfl (fun hc => ?_) (fun hc => ?_)
  · have h := mo_t hc h
    exact B35 _ (lv_sub hl [] rfl) h
  · have h := mo_f hc h
    refine lv_aload_n (pc := 15) hx hb d_mm_earlier_15 rfl (lv_at hl 0 rfl) ?_
    refine gf_mm_53 (pc := 16) hx hb hw hN hown hK hP 0 rfl rfl d_mm_earlier_16 ?_
    refine lv_iload_n (pc := 19) hx hb d_mm_earlier_19 rfl (lv_at hl 1 rfl) ?_
    obtain ⟨v20, hi20, e20, h⟩ := mo_rI_e h
    refine mo_iald (pc := 20) hx hb hK hP 1 0 rfl rfl hi20 e20 d_mm_earlier_20 ?_
    refine lv_aload_n (pc := 21) hx hb d_mm_earlier_21 rfl (lv_at hl 0 rfl) ?_
    refine gf_mm_53 (pc := 22) hx hb hw hN hown hK hP 0 rfl rfl d_mm_earlier_22 ?_
    refine lv_iload_n (pc := 25) hx hb d_mm_earlier_25 rfl (lv_at hl 2 rfl) ?_
    obtain ⟨v26, hi26, e26, h⟩ := mo_rI_e h
    refine mo_iald (pc := 26) hx hb hK hP 1 0 rfl rfl hi26 e26 d_mm_earlier_26 ?_
    refine lv_icmp_ne (pc := 27) (tgt := 39) hx hb d_mm_earlier_27 rfl (fun hc => ?_) (fun hc => ?_)
    · have h := mo_f hc h
      refine lv_iconst (pc := 39) (v := 0) hx hb d_mm_earlier_39 (by decide) ?_
      exact mo_retZr (mo_nz (by decide)) hx hb hr hlocks hQ h d_mm_earlier_40
    · have h := mo_t hc h
      refine lv_iload_n (pc := 30) hx hb d_mm_earlier_30 rfl (lv_at hl 1 rfl) ?_
      refine lv_iload_n (pc := 31) hx hb d_mm_earlier_31 rfl (lv_at hl 2 rfl) ?_
      refine lv_icmp_ge (pc := 32) (tgt := 39) hx hb d_mm_earlier_32 rfl (fun hc => ?_) (fun hc => ?_)
      · have h := mo_t hc h
        refine lv_iconst (pc := 39) (v := 0) hx hb d_mm_earlier_39 (by decide) ?_
        exact mo_retZr (mo_nz (by decide)) hx hb hr hlocks hQ h d_mm_earlier_40
      · have h := mo_f hc h
        exact B35 _ (lv_sub hl [] rfl) h
set_option maxRecDepth 100000 in
set_option maxHeartbeats 4000000 in
theorem c_mm_merge (l : Launch) (D : va_G) (cI cL cZ : ClassId) (a_this : Nat) (a_past : Nat) (a_selected : Nat) (a_score : Nat) (a_hash : Nat) (a_merged : Nat) (a_inputs : Nat) (a_outputs : Nat) (a_source : Nat) (a_index : Nat) (a_secret : Nat) (a_lock : Nat) (a_amount : Nat) (a_id : Nat) (a_parents : Nat) (a_parent : Nat) (a_holds : Nat) (a_held : Nat) (a_blockLock : Nat) (a_blues : Nat) (a_orphan : Nat) (a_pool : Nat) (a_order : Nat) (a_accepted : Nat) (a_free : Nat) (a_coin : Nat) (a_worth : Nat) (v_limit : Int32) (v_made : Int32) (v_blocks : Int32) (v_dag : Int64) (v_orphans : Int32) (v_pooled : Int32) (v_places : Int32) (f_past : Nat → Int64) (f_selected : Nat → Int32) (f_score : Nat → Int32) (f_hash : Nat → Int32) (f_merged : Nat → Int32) (x1 : Int32) (o : Int32 × (Nat → Int32)) (h : m_mm_merge f_past f_selected f_score f_hash f_merged x1 = some o) : Met l y_mm_merge (Cond.code y_mm_merge b_mm_merge 8 (some .int) :: WG) rm_mm_merge (va_Pc [.ref a_this, .int x1] (mo_Pm D [(cI, .int), (cL, .long), (cZ, .boolean)] [(a_this, .inr (7, [.int v_limit, .int v_made, .ref a_inputs, .ref a_outputs, .ref a_source, .ref a_index, .ref a_secret, .ref a_lock, .ref a_amount, .ref a_id, .int v_blocks, .ref a_parents, .ref a_parent, .ref a_holds, .ref a_held, .ref a_blockLock, .ref a_hash, .long v_dag, .ref a_past, .ref a_blues, .ref a_score, .ref a_selected, .int v_orphans, .ref a_orphan, .int v_pooled, .ref a_pool, .int v_places, .ref a_order, .ref a_merged, .ref a_accepted, .ref a_free, .ref a_coin, .ref a_worth])), (a_past, .inl (cL, 61, .inr (.inl f_past))), (a_selected, .inl (cI, 61, .inl f_selected)), (a_score, .inl (cI, 61, .inl f_score)), (a_hash, .inl (cI, 62, .inl f_hash)), (a_merged, .inl (cI, 64, .inl f_merged))])) (mo_Qm D [(a_this, .inr (7, [.int v_limit, .int v_made, .ref a_inputs, .ref a_outputs, .ref a_source, .ref a_index, .ref a_secret, .ref a_lock, .ref a_amount, .ref a_id, .int v_blocks, .ref a_parents, .ref a_parent, .ref a_holds, .ref a_held, .ref a_blockLock, .ref a_hash, .long v_dag, .ref a_past, .ref a_blues, .ref a_score, .ref a_selected, .int v_orphans, .ref a_orphan, .int v_pooled, .ref a_pool, .int v_places, .ref a_order, .ref a_merged, .ref a_accepted, .ref a_free, .ref a_coin, .ref a_worth])), (a_past, .inl (cL, 61, .inr (.inl f_past))), (a_selected, .inl (cI, 61, .inl f_selected)), (a_score, .inl (cI, 61, .inl f_score)), (a_hash, .inl (cI, 62, .inl f_hash)), (a_merged, .inl (cI, 64, .inl f_merged))] (fun (o : Int32 × (Nat → Int32)) => [(a_this, .inr (7, [.int v_limit, .int v_made, .ref a_inputs, .ref a_outputs, .ref a_source, .ref a_index, .ref a_secret, .ref a_lock, .ref a_amount, .ref a_id, .int v_blocks, .ref a_parents, .ref a_parent, .ref a_holds, .ref a_held, .ref a_blockLock, .ref a_hash, .long v_dag, .ref a_past, .ref a_blues, .ref a_score, .ref a_selected, .int v_orphans, .ref a_orphan, .int v_pooled, .ref a_pool, .int v_places, .ref a_order, .ref a_merged, .ref a_accepted, .ref a_free, .ref a_coin, .ref a_worth])), (a_past, .inl (cL, 61, .inr (.inl f_past))), (a_selected, .inl (cI, 61, .inl f_selected)), (a_score, .inl (cI, 61, .inl f_score)), (a_hash, .inl (cI, 62, .inl f_hash)), (a_merged, .inl (cI, 64, .inl o.2))]) (fun (o : Int32 × (Nat → Int32)) => (some (.int o.1))) o) 0 0 (mo_A [(a_this, .inr (7, [.int v_limit, .int v_made, .ref a_inputs, .ref a_outputs, .ref a_source, .ref a_index, .ref a_secret, .ref a_lock, .ref a_amount, .ref a_id, .int v_blocks, .ref a_parents, .ref a_parent, .ref a_holds, .ref a_held, .ref a_blockLock, .ref a_hash, .long v_dag, .ref a_past, .ref a_blues, .ref a_score, .ref a_selected, .int v_orphans, .ref a_orphan, .int v_pooled, .ref a_pool, .int v_places, .ref a_order, .ref a_merged, .ref a_accepted, .ref a_free, .ref a_coin, .ref a_worth])), (a_past, .inl (cL, 61, .inr (.inl f_past))), (a_selected, .inl (cI, 61, .inl f_selected)), (a_score, .inl (cI, 61, .inl f_score)), (a_hash, .inl (cI, 62, .inl f_hash)), (a_merged, .inl (cI, 64, .inl f_merged))]) := by
  refine mo_start (by decide) (Nat.le_of_ble_eq_true rfl) ?_
  intro p e s m args below meth c hx hb hr hlocks hml hown hw hv ls hl Q hQ
  obtain ⟨hP, hK, hN, hD0⟩ := hv
  have hl : lv_has ls 8 [(0, .ref a_this), (1, .int x1)] := hl
  obtain ⟨A, hA2⟩ : ∃ A, A = mo_A [(a_this, .inr (7, [.int v_limit, .int v_made, .ref a_inputs, .ref a_outputs, .ref a_source, .ref a_index, .ref a_secret, .ref a_lock, .ref a_amount, .ref a_id, .int v_blocks, .ref a_parents, .ref a_parent, .ref a_holds, .ref a_held, .ref a_blockLock, .ref a_hash, .long v_dag, .ref a_past, .ref a_blues, .ref a_score, .ref a_selected, .int v_orphans, .ref a_orphan, .int v_pooled, .ref a_pool, .int v_places, .ref a_order, .ref a_merged, .ref a_accepted, .ref a_free, .ref a_coin, .ref a_worth])), (a_past, .inl (cL, 61, .inr (.inl f_past))), (a_selected, .inl (cI, 61, .inl f_selected)), (a_score, .inl (cI, 61, .inl f_score)), (a_hash, .inl (cI, 62, .inl f_hash)), (a_merged, .inl (cI, 64, .inl f_merged))] := ⟨_, rfl⟩
  have hD : va_D A [(a_this, .inr (7, [.int v_limit, .int v_made, .ref a_inputs, .ref a_outputs, .ref a_source, .ref a_index, .ref a_secret, .ref a_lock, .ref a_amount, .ref a_id, .int v_blocks, .ref a_parents, .ref a_parent, .ref a_holds, .ref a_held, .ref a_blockLock, .ref a_hash, .long v_dag, .ref a_past, .ref a_blues, .ref a_score, .ref a_selected, .int v_orphans, .ref a_orphan, .int v_pooled, .ref a_pool, .int v_places, .ref a_order, .ref a_merged, .ref a_accepted, .ref a_free, .ref a_coin, .ref a_worth])), (a_past, .inl (cL, 61, .inr (.inl f_past))), (a_selected, .inl (cI, 61, .inl f_selected)), (a_score, .inl (cI, 61, .inl f_score)), (a_hash, .inl (cI, 62, .inl f_hash)), (a_merged, .inl (cI, 64, .inl f_merged))] := hA2 ▸ mo_self hD0
  have hS : va_S A s.heap s.heap [] := va_S.rf
  unfold m_mm_merge at h
  refine lv_aload_n (pc := 0) hx hb d_mm_merge_0 rfl (lv_at hl 0 rfl) ?_
  refine gf_mm_60 (pc := 1) hx hb hw hN hown hK hP 0 rfl rfl d_mm_merge_1 ?_
  refine lv_iload_n (pc := 4) hx hb d_mm_merge_4 rfl (lv_at hl 1 rfl) ?_
  obtain ⟨v5, hi5, e5, h⟩ := mo_rL_e h
  refine mo_lald (pc := 5) hx hb hK hP 1 1 rfl rfl hi5 e5 d_mm_merge_5 ?_
  refine lv_aload_n (pc := 6) hx hb d_mm_merge_6 rfl (lv_at hl 0 rfl) ?_
  refine gf_mm_60 (pc := 7) hx hb hw hN hown hK hP 0 rfl rfl d_mm_merge_7 ?_
  refine lv_aload_n (pc := 10) hx hb d_mm_merge_10 rfl (lv_at hl 0 rfl) ?_
  refine gf_mm_70 (pc := 11) hx hb hw hN hown hK hP 0 rfl rfl d_mm_merge_11 ?_
  refine lv_iload_n (pc := 14) hx hb d_mm_merge_14 rfl (lv_at hl 1 rfl) ?_
  obtain ⟨v15, hi15, e15, h⟩ := mo_rI_e h
  refine mo_iald (pc := 15) hx hb hK hP 2 0 rfl rfl hi15 e15 d_mm_merge_15 ?_
  obtain ⟨v16, hi16, e16, h⟩ := mo_rL_e h
  refine mo_lald (pc := 16) hx hb hK hP 1 1 rfl rfl hi16 e16 d_mm_merge_16 ?_
  refine lv_ldc2 (pc := 17) (v := (-1)) hx hb hown (hw _ wd_3_135) d_mm_merge_17 ?_
  refine lv_lxor (pc := 20) hx hb d_mm_merge_20 ?_
  refine lv_land (pc := 21) hx hb d_mm_merge_21 ?_
  refine lv_lconst (pc := 22) (v := 1) hx hb d_mm_merge_22 (by decide) ?_
  refine lv_aload_n (pc := 23) hx hb d_mm_merge_23 rfl (lv_at hl 0 rfl) ?_
  refine gf_mm_70 (pc := 24) hx hb hw hN hown hK hP 0 rfl rfl d_mm_merge_24 ?_
  refine lv_iload_n (pc := 27) hx hb d_mm_merge_27 rfl (lv_at hl 1 rfl) ?_
  obtain ⟨v28, hi28, e28, h⟩ := mo_rI_e h
  refine mo_iald (pc := 28) hx hb hK hP 2 0 rfl rfl hi28 e28 d_mm_merge_28 ?_
  refine lv_lshl (pc := 29) hx hb d_mm_merge_29 rfl ?_
  refine lv_ldc2 (pc := 30) (v := (-1)) hx hb hown (hw _ wd_3_135) d_mm_merge_30 ?_
  refine lv_lxor (pc := 33) hx hb d_mm_merge_33 ?_
  refine lv_land (pc := 34) hx hb d_mm_merge_34 ?_
  refine lv_lstore_n (pc := 35) (lv' := [(2, .long ((v5 &&& (v16 ^^^ ((-1)))) &&& (((1 : Int64) <<< (v28.toInt64 &&& 63)) ^^^ ((-1))))), (0, .ref a_this), (1, .int x1)]) hx hb d_mm_merge_35 rfl hl (by decide) rfl (fun ls hl => ?_)
  refine lv_iconst (pc := 36) (v := 0) hx hb d_mm_merge_36 (by decide) ?_
  refine lv_istore (pc := 37) (lv' := [(4, .int 0), (2, .long ((v5 &&& (v16 ^^^ ((-1)))) &&& (((1 : Int64) <<< (v28.toInt64 &&& 63)) ^^^ ((-1))))), (0, .ref a_this), (1, .int x1)]) hx hb d_mm_merge_37 hl (by decide) rfl (fun ls hl => ?_)
  obtain ⟨w39, K39, eK39, hy39, hr39⟩ := mo_bd_k h
  have E39 : ∀ (y39_4 : Int32) (y39_f_merged : Nat → Int32) (ls : Array Slot) (H : Heap) (locs : List Loc) (hP : va_P D cl [(a_this, .inr (7, [.int v_limit, .int v_made, .ref a_inputs, .ref a_outputs, .ref a_source, .ref a_index, .ref a_secret, .ref a_lock, .ref a_amount, .ref a_id, .int v_blocks, .ref a_parents, .ref a_parent, .ref a_holds, .ref a_held, .ref a_blockLock, .ref a_hash, .long v_dag, .ref a_past, .ref a_blues, .ref a_score, .ref a_selected, .int v_orphans, .ref a_orphan, .int v_pooled, .ref a_pool, .int v_places, .ref a_order, .ref a_merged, .ref a_accepted, .ref a_free, .ref a_coin, .ref a_worth])), (a_past, .inl (cL, 61, .inr (.inl f_past))), (a_selected, .inl (cI, 61, .inl f_selected)), (a_score, .inl (cI, 61, .inl f_score)), (a_hash, .inl (cI, 62, .inl f_hash)), (a_merged, .inl (cI, 64, .inl y39_f_merged))] H) (hD : va_D A [(a_this, .inr (7, [.int v_limit, .int v_made, .ref a_inputs, .ref a_outputs, .ref a_source, .ref a_index, .ref a_secret, .ref a_lock, .ref a_amount, .ref a_id, .int v_blocks, .ref a_parents, .ref a_parent, .ref a_holds, .ref a_held, .ref a_blockLock, .ref a_hash, .long v_dag, .ref a_past, .ref a_blues, .ref a_score, .ref a_selected, .int v_orphans, .ref a_orphan, .int v_pooled, .ref a_pool, .int v_places, .ref a_order, .ref a_merged, .ref a_accepted, .ref a_free, .ref a_coin, .ref a_worth])), (a_past, .inl (cL, 61, .inr (.inl f_past))), (a_selected, .inl (cI, 61, .inl f_selected)), (a_score, .inl (cI, 61, .inl f_score)), (a_hash, .inl (cI, 62, .inl f_hash)), (a_merged, .inl (cI, 64, .inl y39_f_merged))]) (hS : va_S A s.heap H locs) (hl : lv_has ls 8 [(4, .int y39_4)]) (h : K39 (y39_4, y39_f_merged) = some o), W p l e rm_mm_merge s m args below meth c H locs 0 0 Q (F0 m 170 ls []) := by
    intro y39_4 y39_f_merged ls H locs hP hD hS hl h
    have h := mo_a1 eK39 h
    try dsimp only at h
    refine lv_iload (pc := 170) hx hb d_mm_merge_170 (lv_at hl 0 rfl) ?_
    exact mo_retIm hx hb hr hlocks hQ hA2 h hP hS d_mm_merge_172 rfl
  exact mo_lp_i (step := (m_mm_merge_L39 f_score f_hash)) (o := w39) (fun (x : Int64 × Int32 × (Nat → Int32)) => match x with | (z39_2, z39_4, z39_f_merged) => ∀ (ls : Array Slot) (H : Heap) (locs : List Loc) (hP : va_P D cl [(a_this, .inr (7, [.int v_limit, .int v_made, .ref a_inputs, .ref a_outputs, .ref a_source, .ref a_index, .ref a_secret, .ref a_lock, .ref a_amount, .ref a_id, .int v_blocks, .ref a_parents, .ref a_parent, .ref a_holds, .ref a_held, .ref a_blockLock, .ref a_hash, .long v_dag, .ref a_past, .ref a_blues, .ref a_score, .ref a_selected, .int v_orphans, .ref a_orphan, .int v_pooled, .ref a_pool, .int v_places, .ref a_order, .ref a_merged, .ref a_accepted, .ref a_free, .ref a_coin, .ref a_worth])), (a_past, .inl (cL, 61, .inr (.inl f_past))), (a_selected, .inl (cI, 61, .inl f_selected)), (a_score, .inl (cI, 61, .inl f_score)), (a_hash, .inl (cI, 62, .inl f_hash)), (a_merged, .inl (cI, 64, .inl z39_f_merged))] H) (hD : va_D A [(a_this, .inr (7, [.int v_limit, .int v_made, .ref a_inputs, .ref a_outputs, .ref a_source, .ref a_index, .ref a_secret, .ref a_lock, .ref a_amount, .ref a_id, .int v_blocks, .ref a_parents, .ref a_parent, .ref a_holds, .ref a_held, .ref a_blockLock, .ref a_hash, .long v_dag, .ref a_past, .ref a_blues, .ref a_score, .ref a_selected, .int v_orphans, .ref a_orphan, .int v_pooled, .ref a_pool, .int v_places, .ref a_order, .ref a_merged, .ref a_accepted, .ref a_free, .ref a_coin, .ref a_worth])), (a_past, .inl (cL, 61, .inr (.inl f_past))), (a_selected, .inl (cI, 61, .inl f_selected)), (a_score, .inl (cI, 61, .inl f_score)), (a_hash, .inl (cI, 62, .inl f_hash)), (a_merged, .inl (cI, 64, .inl z39_f_merged))]) (hS : va_S A s.heap H locs) (hl : lv_has ls 8 [(0, .ref a_this), (2, .long z39_2), (4, .int z39_4)]), W p l e rm_mm_merge s m args below meth c H locs 0 0 Q (F0 m 39 ls [])) (by
      rintro bk39 hb39 ⟨z39_2, z39_4, z39_f_merged⟩ h ls H locs hP hD hS hl
      unfold m_mm_merge_L39 at h
      try dsimp only at h
      refine lv_lload_n (pc := 39) hx hb d_mm_merge_39 rfl (lv_at hl 1 rfl) ?_
      refine lv_lconst (pc := 40) (v := 0) hx hb d_mm_merge_40 (by decide) ?_
      refine mo_lcmpeq (pc := 41) (tgt := 170) hx hb d_mm_merge_41 d_mm_merge_42 rfl (fun hc => ?_) (fun hc => ?_)
      · have h := mo_t hc h
        exact E39 z39_4 z39_f_merged _ _ _ hP hD hS (lv_sub hl [2] rfl) (by rw [Option.some.inj h]; exact hr39)
      · have h := mo_f hc h
        refine lv_iconst (pc := 45) (v := (-1)) hx hb d_mm_merge_45 (by decide) ?_
        refine lv_istore (pc := 46) (lv' := [(5, .int ((-1))), (0, .ref a_this), (2, .long z39_2), (4, .int z39_4)]) hx hb d_mm_merge_46 hl (by decide) rfl (fun ls hl => ?_)
        refine lv_iconst (pc := 48) (v := 0) hx hb d_mm_merge_48 (by decide) ?_
        refine lv_istore (pc := 49) (lv' := [(6, .int 0), (5, .int ((-1))), (0, .ref a_this), (2, .long z39_2), (4, .int z39_4)]) hx hb d_mm_merge_49 hl (by decide) rfl (fun ls hl => ?_)
        obtain ⟨w51, K51, eK51, hy51, hr51⟩ := mo_bd_k h
        have E51 : ∀ (y51_5 : Int32) (ls : Array Slot) (H : Heap) (locs : List Loc) (hP : va_P D cl [(a_this, .inr (7, [.int v_limit, .int v_made, .ref a_inputs, .ref a_outputs, .ref a_source, .ref a_index, .ref a_secret, .ref a_lock, .ref a_amount, .ref a_id, .int v_blocks, .ref a_parents, .ref a_parent, .ref a_holds, .ref a_held, .ref a_blockLock, .ref a_hash, .long v_dag, .ref a_past, .ref a_blues, .ref a_score, .ref a_selected, .int v_orphans, .ref a_orphan, .int v_pooled, .ref a_pool, .int v_places, .ref a_order, .ref a_merged, .ref a_accepted, .ref a_free, .ref a_coin, .ref a_worth])), (a_past, .inl (cL, 61, .inr (.inl f_past))), (a_selected, .inl (cI, 61, .inl f_selected)), (a_score, .inl (cI, 61, .inl f_score)), (a_hash, .inl (cI, 62, .inl f_hash)), (a_merged, .inl (cI, 64, .inl z39_f_merged))] H) (hD : va_D A [(a_this, .inr (7, [.int v_limit, .int v_made, .ref a_inputs, .ref a_outputs, .ref a_source, .ref a_index, .ref a_secret, .ref a_lock, .ref a_amount, .ref a_id, .int v_blocks, .ref a_parents, .ref a_parent, .ref a_holds, .ref a_held, .ref a_blockLock, .ref a_hash, .long v_dag, .ref a_past, .ref a_blues, .ref a_score, .ref a_selected, .int v_orphans, .ref a_orphan, .int v_pooled, .ref a_pool, .int v_places, .ref a_order, .ref a_merged, .ref a_accepted, .ref a_free, .ref a_coin, .ref a_worth])), (a_past, .inl (cL, 61, .inr (.inl f_past))), (a_selected, .inl (cI, 61, .inl f_selected)), (a_score, .inl (cI, 61, .inl f_score)), (a_hash, .inl (cI, 62, .inl f_hash)), (a_merged, .inl (cI, 64, .inl z39_f_merged))]) (hS : va_S A s.heap H locs) (hl : lv_has ls 8 [(0, .ref a_this), (2, .long z39_2), (4, .int z39_4), (5, .int y51_5)]) (h : K51 y51_5 = some w39), W p l e rm_mm_merge s m args below meth c H locs 0 0 Q (F0 m 144 ls []) := by
          intro y51_5 ls H locs hP hD hS hl h
          have h := mo_a1 eK51 h
          try dsimp only at h
          refine lv_aload_n (pc := 144) hx hb d_mm_merge_144 rfl (lv_at hl 0 rfl) ?_
          refine gf_mm_82 (pc := 145) hx hb hw hN hown hK hP 0 rfl rfl d_mm_merge_145 ?_
          refine lv_iload (pc := 148) hx hb d_mm_merge_148 (lv_at hl 2 rfl) ?_
          refine lv_iload (pc := 150) hx hb d_mm_merge_150 (lv_at hl 3 rfl) ?_
          obtain ⟨g152, hi152, e152, h⟩ := mo_wI_e h
          refine mo_iast (pc := 152) hx hb hK hP hD hS 5 0 rfl rfl hi152 e152 d_mm_merge_152 (fun H locs hP hD hS => ?_)
          have hP : va_P D cl [(a_this, .inr (7, [.int v_limit, .int v_made, .ref a_inputs, .ref a_outputs, .ref a_source, .ref a_index, .ref a_secret, .ref a_lock, .ref a_amount, .ref a_id, .int v_blocks, .ref a_parents, .ref a_parent, .ref a_holds, .ref a_held, .ref a_blockLock, .ref a_hash, .long v_dag, .ref a_past, .ref a_blues, .ref a_score, .ref a_selected, .int v_orphans, .ref a_orphan, .int v_pooled, .ref a_pool, .int v_places, .ref a_order, .ref a_merged, .ref a_accepted, .ref a_free, .ref a_coin, .ref a_worth])), (a_past, .inl (cL, 61, .inr (.inl f_past))), (a_selected, .inl (cI, 61, .inl f_selected)), (a_score, .inl (cI, 61, .inl f_score)), (a_hash, .inl (cI, 62, .inl f_hash)), (a_merged, .inl (cI, 64, .inl g152))] H := hP
          have hD : va_D A [(a_this, .inr (7, [.int v_limit, .int v_made, .ref a_inputs, .ref a_outputs, .ref a_source, .ref a_index, .ref a_secret, .ref a_lock, .ref a_amount, .ref a_id, .int v_blocks, .ref a_parents, .ref a_parent, .ref a_holds, .ref a_held, .ref a_blockLock, .ref a_hash, .long v_dag, .ref a_past, .ref a_blues, .ref a_score, .ref a_selected, .int v_orphans, .ref a_orphan, .int v_pooled, .ref a_pool, .int v_places, .ref a_order, .ref a_merged, .ref a_accepted, .ref a_free, .ref a_coin, .ref a_worth])), (a_past, .inl (cL, 61, .inr (.inl f_past))), (a_selected, .inl (cI, 61, .inl f_selected)), (a_score, .inl (cI, 61, .inl f_score)), (a_hash, .inl (cI, 62, .inl f_hash)), (a_merged, .inl (cI, 64, .inl g152))] := hD
          refine lv_iinc (pc := 153) (k := 2) (v := z39_4 + 1) (lv' := [(4, .int (z39_4 + 1)), (0, .ref a_this), (2, .long z39_2), (5, .int y51_5)]) hx hb d_mm_merge_153 hl rfl (mo_inc1 _) (by decide) rfl (fun ls hl => ?_)
          refine lv_lload_n (pc := 156) hx hb d_mm_merge_156 rfl (lv_at hl 2 rfl) ?_
          refine lv_lconst (pc := 157) (v := 1) hx hb d_mm_merge_157 (by decide) ?_
          refine lv_iload (pc := 158) hx hb d_mm_merge_158 (lv_at hl 3 rfl) ?_
          refine lv_lshl (pc := 160) hx hb d_mm_merge_160 rfl ?_
          refine lv_ldc2 (pc := 161) (v := (-1)) hx hb hown (hw _ wd_3_135) d_mm_merge_161 ?_
          refine lv_lxor (pc := 164) hx hb d_mm_merge_164 ?_
          refine lv_land (pc := 165) hx hb d_mm_merge_165 ?_
          refine lv_lstore_n (pc := 166) (lv' := [(2, .long (z39_2 &&& (((1 : Int64) <<< (y51_5.toInt64 &&& 63)) ^^^ ((-1))))), (4, .int (z39_4 + 1)), (0, .ref a_this), (5, .int y51_5)]) hx hb d_mm_merge_166 rfl hl (by decide) rfl (fun ls hl => ?_)
          refine lv_goto (pc := 167) (tgt := 39) hx hb d_mm_merge_167 rfl ?_
          exact hb39 (z39_2 &&& (((1 : Int64) <<< (y51_5.toInt64 &&& 63)) ^^^ ((-1))), z39_4 + 1, g152) h _ _ _ hP hD hS (lv_sub hl [2, 0, 1] rfl)
        exact mo_lp_i (step := (m_mm_merge_L51 f_score f_hash z39_2)) (o := w51) (fun (x : Int32 × Int32) => match x with | (z51_5, z51_6) => ∀ (ls : Array Slot) (H : Heap) (locs : List Loc) (hP : va_P D cl [(a_this, .inr (7, [.int v_limit, .int v_made, .ref a_inputs, .ref a_outputs, .ref a_source, .ref a_index, .ref a_secret, .ref a_lock, .ref a_amount, .ref a_id, .int v_blocks, .ref a_parents, .ref a_parent, .ref a_holds, .ref a_held, .ref a_blockLock, .ref a_hash, .long v_dag, .ref a_past, .ref a_blues, .ref a_score, .ref a_selected, .int v_orphans, .ref a_orphan, .int v_pooled, .ref a_pool, .int v_places, .ref a_order, .ref a_merged, .ref a_accepted, .ref a_free, .ref a_coin, .ref a_worth])), (a_past, .inl (cL, 61, .inr (.inl f_past))), (a_selected, .inl (cI, 61, .inl f_selected)), (a_score, .inl (cI, 61, .inl f_score)), (a_hash, .inl (cI, 62, .inl f_hash)), (a_merged, .inl (cI, 64, .inl z39_f_merged))] H) (hD : va_D A [(a_this, .inr (7, [.int v_limit, .int v_made, .ref a_inputs, .ref a_outputs, .ref a_source, .ref a_index, .ref a_secret, .ref a_lock, .ref a_amount, .ref a_id, .int v_blocks, .ref a_parents, .ref a_parent, .ref a_holds, .ref a_held, .ref a_blockLock, .ref a_hash, .long v_dag, .ref a_past, .ref a_blues, .ref a_score, .ref a_selected, .int v_orphans, .ref a_orphan, .int v_pooled, .ref a_pool, .int v_places, .ref a_order, .ref a_merged, .ref a_accepted, .ref a_free, .ref a_coin, .ref a_worth])), (a_past, .inl (cL, 61, .inr (.inl f_past))), (a_selected, .inl (cI, 61, .inl f_selected)), (a_score, .inl (cI, 61, .inl f_score)), (a_hash, .inl (cI, 62, .inl f_hash)), (a_merged, .inl (cI, 64, .inl z39_f_merged))]) (hS : va_S A s.heap H locs) (hl : lv_has ls 8 [(0, .ref a_this), (2, .long z39_2), (4, .int z39_4), (5, .int z51_5), (6, .int z51_6)]), W p l e rm_mm_merge s m args below meth c H locs 0 0 Q (F0 m 51 ls [])) (by
            rintro bk51 hb51 ⟨z51_5, z51_6⟩ h ls H locs hP hD hS hl
            unfold m_mm_merge_L51 at h
            try dsimp only at h
            refine lv_iload (pc := 51) hx hb d_mm_merge_51 (lv_at hl 4 rfl) ?_
            refine lv_bipush (pc := 53) (v := 60) hx hb d_mm_merge_53 (by decide) ?_
            refine lv_icmp_ge (pc := 55) (tgt := 144) hx hb d_mm_merge_55 rfl (fun hc => ?_) (fun hc => ?_)
            · have h := mo_t hc h
              exact E51 z51_5 _ _ _ hP hD hS (lv_sub hl [0, 1, 2, 3] rfl) (by rw [Option.some.inj h]; exact hr51)
            · have h := mo_f hc h
              refine lv_lload_n (pc := 58) hx hb d_mm_merge_58 rfl (lv_at hl 1 rfl) ?_
              refine lv_iload (pc := 59) hx hb d_mm_merge_59 (lv_at hl 4 rfl) ?_
              obtain ⟨r61, hr61, h⟩ := mo_bd_e h
              refine mo_rS (pc := 61) (As := [.long z39_2, .int z51_6]) (rest := []) (st1 := [.int r61]) ⟨hx, hb, hml, hown, hw⟩ (c_mm_in l D cI cL cZ z39_2 z51_6 r61 hr61) (kS_mm_125 hw ⟨by decide, by decide⟩) mo_P0 hK hN rfl hl.1 rfl rfl d_mm_merge_61 rfl ?_
              obtain ⟨j122, ej122, h⟩ := mo_jn_e h
              have B122 : ∀ (s122_0 : Int32) (ls : Array Slot) (H : Heap) (locs : List Loc) (hP : va_P D cl [(a_this, .inr (7, [.int v_limit, .int v_made, .ref a_inputs, .ref a_outputs, .ref a_source, .ref a_index, .ref a_secret, .ref a_lock, .ref a_amount, .ref a_id, .int v_blocks, .ref a_parents, .ref a_parent, .ref a_holds, .ref a_held, .ref a_blockLock, .ref a_hash, .long v_dag, .ref a_past, .ref a_blues, .ref a_score, .ref a_selected, .int v_orphans, .ref a_orphan, .int v_pooled, .ref a_pool, .int v_places, .ref a_order, .ref a_merged, .ref a_accepted, .ref a_free, .ref a_coin, .ref a_worth])), (a_past, .inl (cL, 61, .inr (.inl f_past))), (a_selected, .inl (cI, 61, .inl f_selected)), (a_score, .inl (cI, 61, .inl f_score)), (a_hash, .inl (cI, 62, .inl f_hash)), (a_merged, .inl (cI, 64, .inl z39_f_merged))] H) (hD : va_D A [(a_this, .inr (7, [.int v_limit, .int v_made, .ref a_inputs, .ref a_outputs, .ref a_source, .ref a_index, .ref a_secret, .ref a_lock, .ref a_amount, .ref a_id, .int v_blocks, .ref a_parents, .ref a_parent, .ref a_holds, .ref a_held, .ref a_blockLock, .ref a_hash, .long v_dag, .ref a_past, .ref a_blues, .ref a_score, .ref a_selected, .int v_orphans, .ref a_orphan, .int v_pooled, .ref a_pool, .int v_places, .ref a_order, .ref a_merged, .ref a_accepted, .ref a_free, .ref a_coin, .ref a_worth])), (a_past, .inl (cL, 61, .inr (.inl f_past))), (a_selected, .inl (cI, 61, .inl f_selected)), (a_score, .inl (cI, 61, .inl f_score)), (a_hash, .inl (cI, 62, .inl f_hash)), (a_merged, .inl (cI, 64, .inl z39_f_merged))]) (hS : va_S A s.heap H locs) (hl : lv_has ls 8 [(0, .ref a_this), (2, .long z39_2), (4, .int z39_4), (5, .int z51_5), (6, .int z51_6)]) (h : j122 s122_0 = some w51), W p l e rm_mm_merge s m args below meth c H locs 0 0 Q (F0 m 122 ls [.int s122_0]) := by
                intro s122_0 ls H locs hP hD hS hl h
                have h := mo_a1 ej122 h
                refine lv_istore (pc := 122) (lv' := [(7, .int s122_0), (0, .ref a_this), (2, .long z39_2), (4, .int z39_4), (5, .int z51_5), (6, .int z51_6)]) hx hb d_mm_merge_122 hl (by decide) rfl (fun ls hl => ?_)
                refine lv_iload (pc := 124) hx hb d_mm_merge_124 (lv_at hl 0 rfl) ?_
                obtain ⟨j136, ej136, h⟩ := mo_jn_e h
                have B136 : ∀ (s136_0 : Int32) (ls : Array Slot) (H : Heap) (locs : List Loc) (hP : va_P D cl [(a_this, .inr (7, [.int v_limit, .int v_made, .ref a_inputs, .ref a_outputs, .ref a_source, .ref a_index, .ref a_secret, .ref a_lock, .ref a_amount, .ref a_id, .int v_blocks, .ref a_parents, .ref a_parent, .ref a_holds, .ref a_held, .ref a_blockLock, .ref a_hash, .long v_dag, .ref a_past, .ref a_blues, .ref a_score, .ref a_selected, .int v_orphans, .ref a_orphan, .int v_pooled, .ref a_pool, .int v_places, .ref a_order, .ref a_merged, .ref a_accepted, .ref a_free, .ref a_coin, .ref a_worth])), (a_past, .inl (cL, 61, .inr (.inl f_past))), (a_selected, .inl (cI, 61, .inl f_selected)), (a_score, .inl (cI, 61, .inl f_score)), (a_hash, .inl (cI, 62, .inl f_hash)), (a_merged, .inl (cI, 64, .inl z39_f_merged))] H) (hD : va_D A [(a_this, .inr (7, [.int v_limit, .int v_made, .ref a_inputs, .ref a_outputs, .ref a_source, .ref a_index, .ref a_secret, .ref a_lock, .ref a_amount, .ref a_id, .int v_blocks, .ref a_parents, .ref a_parent, .ref a_holds, .ref a_held, .ref a_blockLock, .ref a_hash, .long v_dag, .ref a_past, .ref a_blues, .ref a_score, .ref a_selected, .int v_orphans, .ref a_orphan, .int v_pooled, .ref a_pool, .int v_places, .ref a_order, .ref a_merged, .ref a_accepted, .ref a_free, .ref a_coin, .ref a_worth])), (a_past, .inl (cL, 61, .inr (.inl f_past))), (a_selected, .inl (cI, 61, .inl f_selected)), (a_score, .inl (cI, 61, .inl f_score)), (a_hash, .inl (cI, 62, .inl f_hash)), (a_merged, .inl (cI, 64, .inl z39_f_merged))]) (hS : va_S A s.heap H locs) (hl : lv_has ls 8 [(0, .ref a_this), (2, .long z39_2), (4, .int z39_4), (6, .int z51_6)]) (h : j136 s136_0 = some w51), W p l e rm_mm_merge s m args below meth c H locs 0 0 Q (F0 m 136 ls [.int s136_0]) := by
                  intro s136_0 ls H locs hP hD hS hl h
                  have h := mo_a1 ej136 h
                  refine lv_istore (pc := 136) (lv' := [(5, .int s136_0), (0, .ref a_this), (2, .long z39_2), (4, .int z39_4), (6, .int z51_6)]) hx hb d_mm_merge_136 hl (by decide) rfl (fun ls hl => ?_)
                  refine lv_iinc (pc := 138) (k := 4) (v := z51_6 + 1) (lv' := [(6, .int (z51_6 + 1)), (5, .int s136_0), (0, .ref a_this), (2, .long z39_2), (4, .int z39_4)]) hx hb d_mm_merge_138 hl rfl (mo_inc1 _) (by decide) rfl (fun ls hl => ?_)
                  refine lv_goto (pc := 141) (tgt := 51) hx hb d_mm_merge_141 rfl ?_
                  exact hb51 (s136_0, z51_6 + 1) h _ _ _ hP hD hS (lv_sub hl [2, 3, 4, 1, 0] rfl)
                refine lv_if_eq (pc := 126) (tgt := 134) hx hb d_mm_merge_126 rfl (fun hc => ?_) (fun hc => ?_)
                · have h := mo_t hc h
                  refine lv_iload (pc := 134) hx hb d_mm_merge_134 (lv_at hl 4 rfl) ?_
                  exact B136 z51_5 _ _ _ hP hD hS (lv_sub hl [1, 2, 3, 5] rfl) h
                · have h := mo_f hc h
                  refine lv_iload (pc := 129) hx hb d_mm_merge_129 (lv_at hl 5 rfl) ?_
                  refine lv_goto (pc := 131) (tgt := 136) hx hb d_mm_merge_131 rfl ?_
                  exact B136 z51_6 _ _ _ hP hD hS (lv_sub hl [1, 2, 3, 5] rfl) h
              obtain ⟨j121, ej121, h⟩ := mo_jn_e h
              have B121 : ∀ (ls : Array Slot) (H : Heap) (locs : List Loc) (hP : va_P D cl [(a_this, .inr (7, [.int v_limit, .int v_made, .ref a_inputs, .ref a_outputs, .ref a_source, .ref a_index, .ref a_secret, .ref a_lock, .ref a_amount, .ref a_id, .int v_blocks, .ref a_parents, .ref a_parent, .ref a_holds, .ref a_held, .ref a_blockLock, .ref a_hash, .long v_dag, .ref a_past, .ref a_blues, .ref a_score, .ref a_selected, .int v_orphans, .ref a_orphan, .int v_pooled, .ref a_pool, .int v_places, .ref a_order, .ref a_merged, .ref a_accepted, .ref a_free, .ref a_coin, .ref a_worth])), (a_past, .inl (cL, 61, .inr (.inl f_past))), (a_selected, .inl (cI, 61, .inl f_selected)), (a_score, .inl (cI, 61, .inl f_score)), (a_hash, .inl (cI, 62, .inl f_hash)), (a_merged, .inl (cI, 64, .inl z39_f_merged))] H) (hD : va_D A [(a_this, .inr (7, [.int v_limit, .int v_made, .ref a_inputs, .ref a_outputs, .ref a_source, .ref a_index, .ref a_secret, .ref a_lock, .ref a_amount, .ref a_id, .int v_blocks, .ref a_parents, .ref a_parent, .ref a_holds, .ref a_held, .ref a_blockLock, .ref a_hash, .long v_dag, .ref a_past, .ref a_blues, .ref a_score, .ref a_selected, .int v_orphans, .ref a_orphan, .int v_pooled, .ref a_pool, .int v_places, .ref a_order, .ref a_merged, .ref a_accepted, .ref a_free, .ref a_coin, .ref a_worth])), (a_past, .inl (cL, 61, .inr (.inl f_past))), (a_selected, .inl (cI, 61, .inl f_selected)), (a_score, .inl (cI, 61, .inl f_score)), (a_hash, .inl (cI, 62, .inl f_hash)), (a_merged, .inl (cI, 64, .inl z39_f_merged))]) (hS : va_S A s.heap H locs) (hl : lv_has ls 8 [(0, .ref a_this), (2, .long z39_2), (4, .int z39_4), (5, .int z51_5), (6, .int z51_6)]) (h : j121 = some w51), W p l e rm_mm_merge s m args below meth c H locs 0 0 Q (F0 m 121 ls []) := by
                intro ls H locs hP hD hS hl h
                have h := mo_a0 ej121 h
                refine lv_iconst (pc := 121) (v := 0) hx hb d_mm_merge_121 (by decide) ?_
                exact B122 0 _ _ _ hP hD hS (lv_sub hl [0, 1, 2, 3, 4] rfl) h
              refine lv_if_eq (pc := 64) (tgt := 121) hx hb d_mm_merge_64 rfl (fun hc => ?_) (fun hc => ?_)
              · have h := mo_t hc h
                exact B121 _ _ _ hP hD hS (lv_sub hl [0, 1, 2, 3, 4] rfl) h
              · have h := mo_f hc h
                refine lv_iload (pc := 67) hx hb d_mm_merge_67 (lv_at hl 3 rfl) ?_
                obtain ⟨j117, ej117, h⟩ := mo_jn_e h
                have B117 : ∀ (ls : Array Slot) (H : Heap) (locs : List Loc) (hP : va_P D cl [(a_this, .inr (7, [.int v_limit, .int v_made, .ref a_inputs, .ref a_outputs, .ref a_source, .ref a_index, .ref a_secret, .ref a_lock, .ref a_amount, .ref a_id, .int v_blocks, .ref a_parents, .ref a_parent, .ref a_holds, .ref a_held, .ref a_blockLock, .ref a_hash, .long v_dag, .ref a_past, .ref a_blues, .ref a_score, .ref a_selected, .int v_orphans, .ref a_orphan, .int v_pooled, .ref a_pool, .int v_places, .ref a_order, .ref a_merged, .ref a_accepted, .ref a_free, .ref a_coin, .ref a_worth])), (a_past, .inl (cL, 61, .inr (.inl f_past))), (a_selected, .inl (cI, 61, .inl f_selected)), (a_score, .inl (cI, 61, .inl f_score)), (a_hash, .inl (cI, 62, .inl f_hash)), (a_merged, .inl (cI, 64, .inl z39_f_merged))] H) (hD : va_D A [(a_this, .inr (7, [.int v_limit, .int v_made, .ref a_inputs, .ref a_outputs, .ref a_source, .ref a_index, .ref a_secret, .ref a_lock, .ref a_amount, .ref a_id, .int v_blocks, .ref a_parents, .ref a_parent, .ref a_holds, .ref a_held, .ref a_blockLock, .ref a_hash, .long v_dag, .ref a_past, .ref a_blues, .ref a_score, .ref a_selected, .int v_orphans, .ref a_orphan, .int v_pooled, .ref a_pool, .int v_places, .ref a_order, .ref a_merged, .ref a_accepted, .ref a_free, .ref a_coin, .ref a_worth])), (a_past, .inl (cL, 61, .inr (.inl f_past))), (a_selected, .inl (cI, 61, .inl f_selected)), (a_score, .inl (cI, 61, .inl f_score)), (a_hash, .inl (cI, 62, .inl f_hash)), (a_merged, .inl (cI, 64, .inl z39_f_merged))]) (hS : va_S A s.heap H locs) (hl : lv_has ls 8 [(0, .ref a_this), (2, .long z39_2), (4, .int z39_4), (5, .int z51_5), (6, .int z51_6)]) (h : j117 = some w51), W p l e rm_mm_merge s m args below meth c H locs 0 0 Q (F0 m 117 ls []) := by
                  intro ls H locs hP hD hS hl h
                  have h := mo_a0 ej117 h
                  refine lv_iconst (pc := 117) (v := 1) hx hb d_mm_merge_117 (by decide) ?_
                  refine lv_goto (pc := 118) (tgt := 122) hx hb d_mm_merge_118 rfl ?_
                  exact B122 1 _ _ _ hP hD hS (lv_sub hl [0, 1, 2, 3, 4] rfl) h
                refine lv_if_lt (pc := 69) (tgt := 117) hx hb d_mm_merge_69 rfl (fun hc => ?_) (fun hc => ?_)
                · have h := mo_t hc h
                  exact B117 _ _ _ hP hD hS (lv_sub hl [0, 1, 2, 3, 4] rfl) h
                · have h := mo_f hc h
                  refine lv_aload_n (pc := 72) hx hb d_mm_merge_72 rfl (lv_at hl 0 rfl) ?_
                  refine gf_mm_67 (pc := 73) hx hb hw hN hown hK hP 0 rfl rfl d_mm_merge_73 ?_
                  refine lv_iload (pc := 76) hx hb d_mm_merge_76 (lv_at hl 4 rfl) ?_
                  obtain ⟨v78, hi78, e78, h⟩ := mo_rI_e h
                  refine mo_iald (pc := 78) hx hb hK hP 3 0 rfl rfl hi78 e78 d_mm_merge_78 ?_
                  refine lv_aload_n (pc := 79) hx hb d_mm_merge_79 rfl (lv_at hl 0 rfl) ?_
                  refine gf_mm_67 (pc := 80) hx hb hw hN hown hK hP 0 rfl rfl d_mm_merge_80 ?_
                  refine lv_iload (pc := 83) hx hb d_mm_merge_83 (lv_at hl 3 rfl) ?_
                  obtain ⟨v85, hi85, e85, h⟩ := mo_rI_e h
                  refine mo_iald (pc := 85) hx hb hK hP 3 0 rfl rfl hi85 e85 d_mm_merge_85 ?_
                  refine lv_icmp_lt (pc := 86) (tgt := 117) hx hb d_mm_merge_86 rfl (fun hc => ?_) (fun hc => ?_)
                  · have h := mo_t hc h
                    exact B117 _ _ _ hP hD hS (lv_sub hl [0, 1, 2, 3, 4] rfl) h
                  · have h := mo_f hc h
                    refine lv_aload_n (pc := 89) hx hb d_mm_merge_89 rfl (lv_at hl 0 rfl) ?_
                    refine gf_mm_67 (pc := 90) hx hb hw hN hown hK hP 0 rfl rfl d_mm_merge_90 ?_
                    refine lv_iload (pc := 93) hx hb d_mm_merge_93 (lv_at hl 4 rfl) ?_
                    obtain ⟨v95, hi95, e95, h⟩ := mo_rI_e h
                    refine mo_iald (pc := 95) hx hb hK hP 3 0 rfl rfl hi95 e95 d_mm_merge_95 ?_
                    refine lv_aload_n (pc := 96) hx hb d_mm_merge_96 rfl (lv_at hl 0 rfl) ?_
                    refine gf_mm_67 (pc := 97) hx hb hw hN hown hK hP 0 rfl rfl d_mm_merge_97 ?_
                    refine lv_iload (pc := 100) hx hb d_mm_merge_100 (lv_at hl 3 rfl) ?_
                    obtain ⟨v102, hi102, e102, h⟩ := mo_rI_e h
                    refine mo_iald (pc := 102) hx hb hK hP 3 0 rfl rfl hi102 e102 d_mm_merge_102 ?_
                    refine lv_icmp_ne (pc := 103) (tgt := 121) hx hb d_mm_merge_103 rfl (fun hc => ?_) (fun hc => ?_)
                    · have h := mo_f hc h
                      exact B121 _ _ _ hP hD hS (lv_sub hl [0, 1, 2, 3, 4] rfl) h
                    · have h := mo_t hc h
                      refine lv_aload_n (pc := 106) hx hb d_mm_merge_106 rfl (lv_at hl 0 rfl) ?_
                      refine lv_iload (pc := 107) hx hb d_mm_merge_107 (lv_at hl 4 rfl) ?_
                      refine lv_iload (pc := 109) hx hb d_mm_merge_109 (lv_at hl 3 rfl) ?_
                      obtain ⟨r111, hr111, h⟩ := mo_bd_e h
                      refine mo_rV (pc := 111) (As := [.int z51_6, .int z51_5]) (rest := []) (st1 := [.int r111]) ⟨hx, hb, hml, hown, hw⟩ (c_mm_earlier l D cI cL cZ a_this a_hash a_inputs a_outputs a_source a_index a_secret a_lock a_amount a_id a_parents a_parent a_holds a_held a_blockLock a_past a_blues a_score a_selected a_orphan a_pool a_order a_merged a_accepted a_free a_coin a_worth v_limit v_made v_blocks v_dag v_orphans v_pooled v_places f_hash z51_6 z51_5 r111 hr111) (kV_mm_131 hw ⟨by decide, by decide⟩) (hP.sub [0, 4] rfl) hK hN rfl rfl rfl hl.1 rfl rfl d_mm_merge_111 rfl ?_
                      refine lv_if_eq (pc := 114) (tgt := 121) hx hb d_mm_merge_114 rfl (fun hc => ?_) (fun hc => ?_)
                      · have h := mo_t hc h
                        exact B121 _ _ _ hP hD hS (lv_sub hl [0, 1, 2, 3, 4] rfl) h
                      · have h := mo_f hc h
                        exact B117 _ _ _ hP hD hS (lv_sub hl [0, 1, 2, 3, 4] rfl) h
          ) _ _ hy51 _ _ _ hP hD hS (lv_sub hl [2, 3, 4, 1, 0] rfl)
    ) _ _ hy39 _ _ _ hP hD hS (lv_sub hl [2, 1, 0] rfl)
set_option maxRecDepth 100000 in
set_option maxHeartbeats 4000000 in
theorem c_mm_goes (l : Launch) (D : va_G) (cI cL cZ : ClassId) (a_this : Nat) (a_past : Nat) (a_inputs : Nat) (a_outputs : Nat) (a_source : Nat) (a_index : Nat) (a_secret : Nat) (a_lock : Nat) (a_amount : Nat) (a_id : Nat) (a_parents : Nat) (a_parent : Nat) (a_holds : Nat) (a_held : Nat) (a_blockLock : Nat) (a_hash : Nat) (a_blues : Nat) (a_score : Nat) (a_selected : Nat) (a_orphan : Nat) (a_pool : Nat) (a_order : Nat) (a_merged : Nat) (a_accepted : Nat) (a_free : Nat) (a_coin : Nat) (a_worth : Nat) (v_limit : Int32) (v_made : Int32) (v_blocks : Int32) (v_dag : Int64) (v_orphans : Int32) (v_pooled : Int32) (v_places : Int32) (f_past : Nat → Int64) (x1 : Int64) (o : Int32) (h : m_mm_goes v_limit f_past x1 = some o) : Met l y_mm_goes (Cond.code y_mm_goes b_mm_goes 7 (some .boolean) :: WG) rm_mm_goes (va_Pc [.ref a_this, .long x1] (mo_Pr D [(cI, .int), (cL, .long), (cZ, .boolean)] [(a_this, .inr (7, [.int v_limit, .int v_made, .ref a_inputs, .ref a_outputs, .ref a_source, .ref a_index, .ref a_secret, .ref a_lock, .ref a_amount, .ref a_id, .int v_blocks, .ref a_parents, .ref a_parent, .ref a_holds, .ref a_held, .ref a_blockLock, .ref a_hash, .long v_dag, .ref a_past, .ref a_blues, .ref a_score, .ref a_selected, .int v_orphans, .ref a_orphan, .int v_pooled, .ref a_pool, .int v_places, .ref a_order, .ref a_merged, .ref a_accepted, .ref a_free, .ref a_coin, .ref a_worth])), (a_past, .inl (cL, 61, .inr (.inl f_past)))])) (mo_Qr (some (.int o))) 0 0 (fun _ => False) := by
  refine mo_start (by decide) (Nat.le_of_ble_eq_true rfl) ?_
  intro p e s m args below meth c hx hb hr hlocks hml hown hw hv ls hl Q hQ
  obtain ⟨hP, hK, hN⟩ := hv
  have hl : lv_has ls 7 [(0, .ref a_this), (1, .long x1)] := hl
  unfold m_mm_goes at h
  refine lv_iconst (pc := 0) (v := 0) hx hb d_mm_goes_0 (by decide) ?_
  refine lv_istore_n (pc := 1) (lv' := [(3, .int 0), (0, .ref a_this), (1, .long x1)]) hx hb d_mm_goes_1 rfl hl (by decide) rfl (fun ls hl => ?_)
  exact mo_lp_i (step := (m_mm_goes_L2 v_limit f_past x1)) (o := o) (fun (z2_3 : Int32) => ∀ (ls : Array Slot) (hl : lv_has ls 7 [(0, .ref a_this), (1, .long x1), (3, .int z2_3)]), W p l e rm_mm_goes s m args below meth c s.heap [] 0 0 Q (F0 m 2 ls [])) (by
      intro bk2 hb2 z2_3 h ls hl
      unfold m_mm_goes_L2 at h
      try dsimp only at h
      refine lv_iload_n (pc := 2) hx hb d_mm_goes_2 rfl (lv_at hl 2 rfl) ?_
      refine lv_bipush (pc := 3) (v := 60) hx hb d_mm_goes_3 (by decide) ?_
      refine lv_icmp_ge (pc := 5) (tgt := 118) hx hb d_mm_goes_5 rfl (fun hc => ?_) (fun hc => ?_)
      · have h := mo_t hc h
        refine lv_iconst (pc := 118) (v := 1) hx hb d_mm_goes_118 (by decide) ?_
        exact mo_retZr (mo_nz (by decide)) hx hb hr hlocks hQ h d_mm_goes_119
      · have h := mo_f hc h
        refine lv_iconst (pc := 8) (v := 0) hx hb d_mm_goes_8 (by decide) ?_
        refine lv_istore (pc := 9) (lv' := [(4, .int 0), (0, .ref a_this), (1, .long x1), (3, .int z2_3)]) hx hb d_mm_goes_9 hl (by decide) rfl (fun ls hl => ?_)
        refine lv_iconst (pc := 11) (v := 0) hx hb d_mm_goes_11 (by decide) ?_
        refine lv_istore (pc := 12) (lv' := [(5, .int 0), (4, .int 0), (0, .ref a_this), (1, .long x1), (3, .int z2_3)]) hx hb d_mm_goes_12 hl (by decide) rfl (fun ls hl => ?_)
        obtain ⟨w14, K14, eK14, hy14, hr14⟩ := mo_bd_k h
        have E14 : ∀ (y14_4 : Int32) (ls : Array Slot) (hl : lv_has ls 7 [(0, .ref a_this), (1, .long x1), (3, .int z2_3), (4, .int y14_4)]) (h : K14 y14_4 = some o), W p l e rm_mm_goes s m args below meth c s.heap [] 0 0 Q (F0 m 101 ls []) := by
          intro y14_4 ls hl h
          have h := mo_a1 eK14 h
          try dsimp only at h
          refine lv_iload (pc := 101) hx hb d_mm_goes_101 (lv_at hl 3 rfl) ?_
          refine lv_aload_n (pc := 103) hx hb d_mm_goes_103 rfl (lv_at hl 0 rfl) ?_
          refine gf_mm_98 (pc := 104) hx hb hw hN hown hK hP 0 rfl rfl d_mm_goes_104 ?_
          refine lv_icmp_le (pc := 107) (tgt := 112) hx hb d_mm_goes_107 rfl (fun hc => ?_) (fun hc => ?_)
          · have h := mo_t hc h
            refine lv_iinc (pc := 112) (k := 2) (v := z2_3 + 1) (lv' := [(3, .int (z2_3 + 1)), (0, .ref a_this), (1, .long x1), (4, .int y14_4)]) hx hb d_mm_goes_112 hl rfl (mo_inc1 _) (by decide) rfl (fun ls hl => ?_)
            refine lv_goto (pc := 115) (tgt := 2) hx hb d_mm_goes_115 rfl ?_
            exact hb2 (z2_3 + 1) h _ (lv_sub hl [1, 2, 0] rfl)
          · have h := mo_f hc h
            refine lv_iconst (pc := 110) (v := 0) hx hb d_mm_goes_110 (by decide) ?_
            exact mo_retZr (mo_nz (by decide)) hx hb hr hlocks hQ h d_mm_goes_111
        exact mo_lp_i (step := (m_mm_goes_L14 f_past x1 z2_3)) (o := w14) (fun (x : Int32 × Int32) => match x with | (z14_4, z14_5) => ∀ (ls : Array Slot) (hl : lv_has ls 7 [(0, .ref a_this), (1, .long x1), (3, .int z2_3), (4, .int z14_4), (5, .int z14_5)]), W p l e rm_mm_goes s m args below meth c s.heap [] 0 0 Q (F0 m 14 ls [])) (by
            rintro bk14 hb14 ⟨z14_4, z14_5⟩ h ls hl
            unfold m_mm_goes_L14 at h
            try dsimp only at h
            refine lv_iload (pc := 14) hx hb d_mm_goes_14 (lv_at hl 4 rfl) ?_
            refine lv_bipush (pc := 16) (v := 60) hx hb d_mm_goes_16 (by decide) ?_
            refine lv_icmp_ge (pc := 18) (tgt := 101) hx hb d_mm_goes_18 rfl (fun hc => ?_) (fun hc => ?_)
            · have h := mo_t hc h
              exact E14 z14_4 _ (lv_sub hl [0, 1, 2, 3] rfl) (by rw [Option.some.inj h]; exact hr14)
            · have h := mo_f hc h
              refine lv_lload_n (pc := 21) hx hb d_mm_goes_21 rfl (lv_at hl 1 rfl) ?_
              refine lv_iload_n (pc := 22) hx hb d_mm_goes_22 rfl (lv_at hl 2 rfl) ?_
              obtain ⟨r23, hr23, h⟩ := mo_bd_e h
              refine mo_rS (pc := 23) (As := [.long x1, .int z2_3]) (rest := []) (st1 := [.int r23]) ⟨hx, hb, hml, hown, hw⟩ (c_mm_in l D cI cL cZ x1 z2_3 r23 hr23) (kS_mm_125 hw ⟨by decide, by decide⟩) mo_P0 hK hN rfl hl.1 rfl rfl d_mm_goes_23 rfl ?_
              refine lv_if_eq (pc := 26) (tgt := 101) hx hb d_mm_goes_26 rfl (fun hc => ?_) (fun hc => ?_)
              · have h := mo_t hc h
                exact E14 z14_4 _ (lv_sub hl [0, 1, 2, 3] rfl) (by rw [Option.some.inj h]; exact hr14)
              · have h := mo_f hc h
                refine lv_iload_n (pc := 29) hx hb d_mm_goes_29 rfl (lv_at hl 2 rfl) ?_
                refine lv_iload (pc := 30) hx hb d_mm_goes_30 (lv_at hl 4 rfl) ?_
                obtain ⟨j77, ej77, h⟩ := mo_jn_e h
                have B77 : ∀ (s77_0 : Int32) (ls : Array Slot) (hl : lv_has ls 7 [(0, .ref a_this), (1, .long x1), (3, .int z2_3), (4, .int z14_4), (5, .int z14_5)]) (h : j77 s77_0 = some w14), W p l e rm_mm_goes s m args below meth c s.heap [] 0 0 Q (F0 m 77 ls [.int s77_0]) := by
                  intro s77_0 ls hl h
                  have h := mo_a1 ej77 h
                  refine lv_istore (pc := 77) (lv' := [(6, .int s77_0), (0, .ref a_this), (1, .long x1), (3, .int z2_3), (4, .int z14_4), (5, .int z14_5)]) hx hb d_mm_goes_77 hl (by decide) rfl (fun ls hl => ?_)
                  refine lv_iload (pc := 79) hx hb d_mm_goes_79 (lv_at hl 0 rfl) ?_
                  obtain ⟨j93, ej93, h⟩ := mo_jn_e h
                  have B93 : ∀ (s93_0 : Int32) (ls : Array Slot) (hl : lv_has ls 7 [(0, .ref a_this), (1, .long x1), (3, .int z2_3), (5, .int z14_5)]) (h : j93 s93_0 = some w14), W p l e rm_mm_goes s m args below meth c s.heap [] 0 0 Q (F0 m 93 ls [.int s93_0]) := by
                    intro s93_0 ls hl h
                    have h := mo_a1 ej93 h
                    refine lv_istore (pc := 93) (lv' := [(4, .int s93_0), (0, .ref a_this), (1, .long x1), (3, .int z2_3), (5, .int z14_5)]) hx hb d_mm_goes_93 hl (by decide) rfl (fun ls hl => ?_)
                    refine lv_iinc (pc := 95) (k := 4) (v := z14_5 + 1) (lv' := [(5, .int (z14_5 + 1)), (4, .int s93_0), (0, .ref a_this), (1, .long x1), (3, .int z2_3)]) hx hb d_mm_goes_95 hl rfl (mo_inc1 _) (by decide) rfl (fun ls hl => ?_)
                    refine lv_goto (pc := 98) (tgt := 14) hx hb d_mm_goes_98 rfl ?_
                    exact hb14 (s93_0, z14_5 + 1) h _ (lv_sub hl [2, 3, 4, 1, 0] rfl)
                  refine lv_if_eq (pc := 81) (tgt := 91) hx hb d_mm_goes_81 rfl (fun hc => ?_) (fun hc => ?_)
                  · have h := mo_t hc h
                    refine lv_iload (pc := 91) hx hb d_mm_goes_91 (lv_at hl 4 rfl) ?_
                    exact B93 z14_4 _ (lv_sub hl [1, 2, 3, 5] rfl) h
                  · have h := mo_f hc h
                    refine lv_iload (pc := 84) hx hb d_mm_goes_84 (lv_at hl 4 rfl) ?_
                    refine lv_iconst (pc := 86) (v := 1) hx hb d_mm_goes_86 (by decide) ?_
                    refine lv_iadd (pc := 87) hx hb d_mm_goes_87 ?_
                    refine lv_goto (pc := 88) (tgt := 93) hx hb d_mm_goes_88 rfl ?_
                    exact B93 (z14_4 + 1) _ (lv_sub hl [1, 2, 3, 5] rfl) h
                obtain ⟨j76, ej76, h⟩ := mo_jn_e h
                have B76 : ∀ (ls : Array Slot) (hl : lv_has ls 7 [(0, .ref a_this), (1, .long x1), (3, .int z2_3), (4, .int z14_4), (5, .int z14_5)]) (h : j76 = some w14), W p l e rm_mm_goes s m args below meth c s.heap [] 0 0 Q (F0 m 76 ls []) := by
                  intro ls hl h
                  have h := mo_a0 ej76 h
                  refine lv_iconst (pc := 76) (v := 0) hx hb d_mm_goes_76 (by decide) ?_
                  exact B77 0 _ (lv_sub hl [0, 1, 2, 3, 4] rfl) h
                refine lv_icmp_eq (pc := 32) (tgt := 76) hx hb d_mm_goes_32 rfl (fun hc => ?_) (fun hc => ?_)
                · have h := mo_t hc h
                  exact B76 _ (lv_sub hl [0, 1, 2, 3, 4] rfl) h
                · have h := mo_f hc h
                  refine lv_lload_n (pc := 35) hx hb d_mm_goes_35 rfl (lv_at hl 1 rfl) ?_
                  refine lv_iload (pc := 36) hx hb d_mm_goes_36 (lv_at hl 4 rfl) ?_
                  obtain ⟨r38, hr38, h⟩ := mo_bd_e h
                  refine mo_rS (pc := 38) (As := [.long x1, .int z14_5]) (rest := []) (st1 := [.int r38]) ⟨hx, hb, hml, hown, hw⟩ (c_mm_in l D cI cL cZ x1 z14_5 r38 hr38) (kS_mm_125 hw ⟨by decide, by decide⟩) mo_P0 hK hN rfl hl.1 rfl rfl d_mm_goes_38 rfl ?_
                  refine lv_if_eq (pc := 41) (tgt := 76) hx hb d_mm_goes_41 rfl (fun hc => ?_) (fun hc => ?_)
                  · have h := mo_t hc h
                    exact B76 _ (lv_sub hl [0, 1, 2, 3, 4] rfl) h
                  · have h := mo_f hc h
                    refine lv_aload_n (pc := 44) hx hb d_mm_goes_44 rfl (lv_at hl 0 rfl) ?_
                    refine gf_mm_60 (pc := 45) hx hb hw hN hown hK hP 0 rfl rfl d_mm_goes_45 ?_
                    refine lv_iload_n (pc := 48) hx hb d_mm_goes_48 rfl (lv_at hl 2 rfl) ?_
                    obtain ⟨v49, hi49, e49, h⟩ := mo_rL_e h
                    refine mo_lald (pc := 49) hx hb hK hP 1 1 rfl rfl hi49 e49 d_mm_goes_49 ?_
                    refine lv_iload (pc := 50) hx hb d_mm_goes_50 (lv_at hl 4 rfl) ?_
                    obtain ⟨r52, hr52, h⟩ := mo_bd_e h
                    refine mo_rS (pc := 52) (As := [.long v49, .int z14_5]) (rest := []) (st1 := [.int r52]) ⟨hx, hb, hml, hown, hw⟩ (c_mm_in l D cI cL cZ v49 z14_5 r52 hr52) (kS_mm_125 hw ⟨by decide, by decide⟩) mo_P0 hK hN rfl hl.1 rfl rfl d_mm_goes_52 rfl ?_
                    refine lv_if_ne (pc := 55) (tgt := 76) hx hb d_mm_goes_55 rfl (fun hc => ?_) (fun hc => ?_)
                    · have h := mo_f hc h
                      exact B76 _ (lv_sub hl [0, 1, 2, 3, 4] rfl) h
                    · have h := mo_t hc h
                      refine lv_aload_n (pc := 58) hx hb d_mm_goes_58 rfl (lv_at hl 0 rfl) ?_
                      refine gf_mm_60 (pc := 59) hx hb hw hN hown hK hP 0 rfl rfl d_mm_goes_59 ?_
                      refine lv_iload (pc := 62) hx hb d_mm_goes_62 (lv_at hl 4 rfl) ?_
                      obtain ⟨v64, hi64, e64, h⟩ := mo_rL_e h
                      refine mo_lald (pc := 64) hx hb hK hP 1 1 rfl rfl hi64 e64 d_mm_goes_64 ?_
                      refine lv_iload_n (pc := 65) hx hb d_mm_goes_65 rfl (lv_at hl 2 rfl) ?_
                      obtain ⟨r66, hr66, h⟩ := mo_bd_e h
                      refine mo_rS (pc := 66) (As := [.long v64, .int z2_3]) (rest := []) (st1 := [.int r66]) ⟨hx, hb, hml, hown, hw⟩ (c_mm_in l D cI cL cZ v64 z2_3 r66 hr66) (kS_mm_125 hw ⟨by decide, by decide⟩) mo_P0 hK hN rfl hl.1 rfl rfl d_mm_goes_66 rfl ?_
                      refine lv_if_ne (pc := 69) (tgt := 76) hx hb d_mm_goes_69 rfl (fun hc => ?_) (fun hc => ?_)
                      · have h := mo_f hc h
                        exact B76 _ (lv_sub hl [0, 1, 2, 3, 4] rfl) h
                      · have h := mo_t hc h
                        refine lv_iconst (pc := 72) (v := 1) hx hb d_mm_goes_72 (by decide) ?_
                        refine lv_goto (pc := 73) (tgt := 77) hx hb d_mm_goes_73 rfl ?_
                        exact B77 1 _ (lv_sub hl [0, 1, 2, 3, 4] rfl) h
          ) _ _ hy14 _ (lv_sub hl [2, 3, 4, 1, 0] rfl)
    ) _ _ h _ (lv_sub hl [1, 2, 0] rfl)
