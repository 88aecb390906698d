set_option maxRecDepth 100000 in
set_option maxHeartbeats 4000000 in
theorem c_mm_parent (l : Launch) (D : va_G) (cI cL cZ : ClassId) (a_this : Nat) (a_parents : Nat) (a_parent : Nat) (a_inputs : Nat) (a_outputs : Nat) (a_source : Nat) (a_index : Nat) (a_secret : Nat) (a_lock : Nat) (a_amount : Nat) (a_id : Nat) (a_holds : Nat) (a_held : Nat) (a_blockLock : Nat) (a_hash : Nat) (a_past : Nat) (a_blues : Nat) (a_score : Nat) (a_selected : Nat) (a_orphan : Nat) (a_pool : Nat) (a_order : Nat) (a_merged : Nat) (a_accepted : Nat) (a_free : Nat) (a_coin : Nat) (a_worth : Nat) (v_limit : Int32) (v_made : Int32) (v_blocks : Int32) (v_dag : Int64) (v_orphans : Int32) (v_pooled : Int32) (v_places : Int32) (f_parents : Nat → Int32) (f_parent : Nat → Int32) (x1 : Int32) (o : Int32 × (Nat → Int32) × (Nat → Int32)) (h : m_mm_parent v_blocks f_parents f_parent x1 = some o) : Met l y_mm_parent (Cond.code y_mm_parent b_mm_parent 3 (some .boolean) :: WG) rm_mm_parent (va_Pc [.ref a_this, .int x1] (mo_Pm D [(cI, .int), (cL, .long), (cZ, .boolean)] [(a_this, .inr (7, [.int v_limit, .int v_made, .ref a_inputs, .ref a_outputs, .ref a_source, .ref a_index, .ref a_secret, .ref a_lock, .ref a_amount, .ref a_id, .int v_blocks, .ref a_parents, .ref a_parent, .ref a_holds, .ref a_held, .ref a_blockLock, .ref a_hash, .long v_dag, .ref a_past, .ref a_blues, .ref a_score, .ref a_selected, .int v_orphans, .ref a_orphan, .int v_pooled, .ref a_pool, .int v_places, .ref a_order, .ref a_merged, .ref a_accepted, .ref a_free, .ref a_coin, .ref a_worth])), (a_parents, .inl (cI, 62, .inl f_parents)), (a_parent, .inl (cI, 248, .inl f_parent))])) (mo_Qm D [(a_this, .inr (7, [.int v_limit, .int v_made, .ref a_inputs, .ref a_outputs, .ref a_source, .ref a_index, .ref a_secret, .ref a_lock, .ref a_amount, .ref a_id, .int v_blocks, .ref a_parents, .ref a_parent, .ref a_holds, .ref a_held, .ref a_blockLock, .ref a_hash, .long v_dag, .ref a_past, .ref a_blues, .ref a_score, .ref a_selected, .int v_orphans, .ref a_orphan, .int v_pooled, .ref a_pool, .int v_places, .ref a_order, .ref a_merged, .ref a_accepted, .ref a_free, .ref a_coin, .ref a_worth])), (a_parents, .inl (cI, 62, .inl f_parents)), (a_parent, .inl (cI, 248, .inl f_parent))] (fun (o : Int32 × (Nat → Int32) × (Nat → Int32)) => [(a_this, .inr (7, [.int v_limit, .int v_made, .ref a_inputs, .ref a_outputs, .ref a_source, .ref a_index, .ref a_secret, .ref a_lock, .ref a_amount, .ref a_id, .int v_blocks, .ref a_parents, .ref a_parent, .ref a_holds, .ref a_held, .ref a_blockLock, .ref a_hash, .long v_dag, .ref a_past, .ref a_blues, .ref a_score, .ref a_selected, .int v_orphans, .ref a_orphan, .int v_pooled, .ref a_pool, .int v_places, .ref a_order, .ref a_merged, .ref a_accepted, .ref a_free, .ref a_coin, .ref a_worth])), (a_parents, .inl (cI, 62, .inl o.2.1)), (a_parent, .inl (cI, 248, .inl o.2.2))]) (fun (o : Int32 × (Nat → Int32) × (Nat → Int32)) => (some (.int o.1))) o) 0 0 (mo_A [(a_this, .inr (7, [.int v_limit, .int v_made, .ref a_inputs, .ref a_outputs, .ref a_source, .ref a_index, .ref a_secret, .ref a_lock, .ref a_amount, .ref a_id, .int v_blocks, .ref a_parents, .ref a_parent, .ref a_holds, .ref a_held, .ref a_blockLock, .ref a_hash, .long v_dag, .ref a_past, .ref a_blues, .ref a_score, .ref a_selected, .int v_orphans, .ref a_orphan, .int v_pooled, .ref a_pool, .int v_places, .ref a_order, .ref a_merged, .ref a_accepted, .ref a_free, .ref a_coin, .ref a_worth])), (a_parents, .inl (cI, 62, .inl f_parents)), (a_parent, .inl (cI, 248, .inl f_parent))]) := by
  refine mo_start (by decide) (Nat.le_of_ble_eq_true rfl) ?_
  intro p e s m args below meth c hx hb hr hlocks hml hown hw hv ls hl Q hQ
  obtain ⟨hP, hK, hN, hD0⟩ := hv
  have hl : lv_has ls 3 [(0, .ref a_this), (1, .int x1)] := hl
  obtain ⟨A, hA2⟩ : ∃ A, A = mo_A [(a_this, .inr (7, [.int v_limit, .int v_made, .ref a_inputs, .ref a_outputs, .ref a_source, .ref a_index, .ref a_secret, .ref a_lock, .ref a_amount, .ref a_id, .int v_blocks, .ref a_parents, .ref a_parent, .ref a_holds, .ref a_held, .ref a_blockLock, .ref a_hash, .long v_dag, .ref a_past, .ref a_blues, .ref a_score, .ref a_selected, .int v_orphans, .ref a_orphan, .int v_pooled, .ref a_pool, .int v_places, .ref a_order, .ref a_merged, .ref a_accepted, .ref a_free, .ref a_coin, .ref a_worth])), (a_parents, .inl (cI, 62, .inl f_parents)), (a_parent, .inl (cI, 248, .inl f_parent))] := ⟨_, rfl⟩
  have hD : va_D A [(a_this, .inr (7, [.int v_limit, .int v_made, .ref a_inputs, .ref a_outputs, .ref a_source, .ref a_index, .ref a_secret, .ref a_lock, .ref a_amount, .ref a_id, .int v_blocks, .ref a_parents, .ref a_parent, .ref a_holds, .ref a_held, .ref a_blockLock, .ref a_hash, .long v_dag, .ref a_past, .ref a_blues, .ref a_score, .ref a_selected, .int v_orphans, .ref a_orphan, .int v_pooled, .ref a_pool, .int v_places, .ref a_order, .ref a_merged, .ref a_accepted, .ref a_free, .ref a_coin, .ref a_worth])), (a_parents, .inl (cI, 62, .inl f_parents)), (a_parent, .inl (cI, 248, .inl f_parent))] := hA2 ▸ mo_self hD0
  have hS : va_S A s.heap s.heap [] := va_S.rf
  unfold m_mm_parent at h
  refine lv_aload_n (pc := 0) hx hb d_mm_parent_0 rfl (lv_at hl 0 rfl) ?_
  refine lv_iload_n (pc := 1) hx hb d_mm_parent_1 rfl (lv_at hl 1 rfl) ?_
  obtain ⟨r2, hr2, h⟩ := mo_bd_e h
  refine mo_rV (pc := 2) (As := [.int x1]) (rest := []) (st1 := [.int r2]) ⟨hx, hb, hml, hown, hw⟩ (c_mm_isBlock l D cI cL cZ a_this a_inputs a_outputs a_source a_index a_secret a_lock a_amount a_id a_parents a_parent a_holds a_held a_blockLock a_hash a_past a_blues a_score a_selected a_orphan a_pool a_order a_merged a_accepted a_free a_coin a_worth v_limit v_made v_blocks v_dag v_orphans v_pooled v_places x1 r2 hr2) (kV_mm_113 hw ⟨by decide, by decide⟩) (hP.sub [0] rfl) hK hN rfl rfl rfl hl.1 rfl rfl d_mm_parent_2 rfl ?_
  refine lv_if_eq (pc := 5) (tgt := 19) hx hb d_mm_parent_5 rfl (fun hc => ?_) (fun hc => ?_)
  · have h := mo_t hc h
    refine lv_iconst (pc := 19) (v := 0) hx hb d_mm_parent_19 (by decide) ?_
    exact mo_retZm (mo_nz (by decide)) hx hb hr hlocks hQ hA2 h hP hS d_mm_parent_20 rfl
  · have h := mo_f hc h
    refine lv_aload_n (pc := 8) hx hb d_mm_parent_8 rfl (lv_at hl 0 rfl) ?_
    refine gf_mm_38 (pc := 9) hx hb hw hN hown hK hP 0 rfl rfl d_mm_parent_9 ?_
    refine lv_bipush (pc := 12) (v := 60) hx hb d_mm_parent_12 (by decide) ?_
    obtain ⟨v14, hi14, e14, h⟩ := mo_rI_e h
    refine mo_iald (pc := 14) hx hb hK hP 1 0 rfl rfl hi14 e14 d_mm_parent_14 ?_
    refine lv_iconst (pc := 15) (v := 4) hx hb d_mm_parent_15 (by decide) ?_
    refine lv_icmp_ne (pc := 16) (tgt := 21) hx hb d_mm_parent_16 rfl (fun hc => ?_) (fun hc => ?_)
    · have h := mo_f hc h
      refine lv_iconst (pc := 21) (v := 0) hx hb d_mm_parent_21 (by decide) ?_
      refine lv_istore_n (pc := 22) (lv' := [(2, .int 0), (0, .ref a_this), (1, .int x1)]) hx hb d_mm_parent_22 rfl hl (by decide) rfl (fun ls hl => ?_)
      obtain ⟨j56, ej56, h⟩ := mo_jn_e h
      have B56 : ∀ (ls : Array Slot) (H : Heap) (locs : List Loc) (hP : va_P D cl [(a_this, .inr (7, [.int v_limit, .int v_made, .ref a_inputs, .ref a_outputs, .ref a_source, .ref a_index, .ref a_secret, .ref a_lock, .ref a_amount, .ref a_id, .int v_blocks, .ref a_parents, .ref a_parent, .ref a_holds, .ref a_held, .ref a_blockLock, .ref a_hash, .long v_dag, .ref a_past, .ref a_blues, .ref a_score, .ref a_selected, .int v_orphans, .ref a_orphan, .int v_pooled, .ref a_pool, .int v_places, .ref a_order, .ref a_merged, .ref a_accepted, .ref a_free, .ref a_coin, .ref a_worth])), (a_parents, .inl (cI, 62, .inl f_parents)), (a_parent, .inl (cI, 248, .inl f_parent))] H) (hD : va_D A [(a_this, .inr (7, [.int v_limit, .int v_made, .ref a_inputs, .ref a_outputs, .ref a_source, .ref a_index, .ref a_secret, .ref a_lock, .ref a_amount, .ref a_id, .int v_blocks, .ref a_parents, .ref a_parent, .ref a_holds, .ref a_held, .ref a_blockLock, .ref a_hash, .long v_dag, .ref a_past, .ref a_blues, .ref a_score, .ref a_selected, .int v_orphans, .ref a_orphan, .int v_pooled, .ref a_pool, .int v_places, .ref a_order, .ref a_merged, .ref a_accepted, .ref a_free, .ref a_coin, .ref a_worth])), (a_parents, .inl (cI, 62, .inl f_parents)), (a_parent, .inl (cI, 248, .inl f_parent))]) (hS : va_S A s.heap H locs) (hl : lv_has ls 3 [(0, .ref a_this), (1, .int x1)]) (h : j56 = some o), W p l e rm_mm_parent s m args below meth c H locs 0 0 Q (F0 m 56 ls []) := by
        intro ls H locs hP hD hS hl h
        have h := mo_a0 ej56 h
        refine lv_aload_n (pc := 56) hx hb d_mm_parent_56 rfl (lv_at hl 0 rfl) ?_
        refine gf_mm_41 (pc := 57) hx hb hw hN hown hK hP 0 rfl rfl d_mm_parent_57 ?_
        refine lv_sipush (pc := 60) (v := 240) hx hb d_mm_parent_60 (by decide) ?_
        refine lv_aload_n (pc := 63) hx hb d_mm_parent_63 rfl (lv_at hl 0 rfl) ?_
        refine gf_mm_38 (pc := 64) hx hb hw hN hown hK hP 0 rfl rfl d_mm_parent_64 ?_
        refine lv_bipush (pc := 67) (v := 60) hx hb d_mm_parent_67 (by decide) ?_
        obtain ⟨v69, hi69, e69, h⟩ := mo_rI_e h
        refine mo_iald (pc := 69) hx hb hK hP 1 0 rfl rfl hi69 e69 d_mm_parent_69 ?_
        refine lv_iadd (pc := 70) hx hb d_mm_parent_70 ?_
        refine lv_iload_n (pc := 71) hx hb d_mm_parent_71 rfl (lv_at hl 1 rfl) ?_
        obtain ⟨g72, hi72, e72, h⟩ := mo_wI_e h
        refine mo_iast (pc := 72) hx hb hK hP hD hS 2 0 rfl rfl hi72 e72 d_mm_parent_72 (fun H locs hP hD hS => ?_)
        have hP : va_P D cl [(a_this, .inr (7, [.int v_limit, .int v_made, .ref a_inputs, .ref a_outputs, .ref a_source, .ref a_index, .ref a_secret, .ref a_lock, .ref a_amount, .ref a_id, .int v_blocks, .ref a_parents, .ref a_parent, .ref a_holds, .ref a_held, .ref a_blockLock, .ref a_hash, .long v_dag, .ref a_past, .ref a_blues, .ref a_score, .ref a_selected, .int v_orphans, .ref a_orphan, .int v_pooled, .ref a_pool, .int v_places, .ref a_order, .ref a_merged, .ref a_accepted, .ref a_free, .ref a_coin, .ref a_worth])), (a_parents, .inl (cI, 62, .inl f_parents)), (a_parent, .inl (cI, 248, .inl g72))] H := hP
        have hD : va_D A [(a_this, .inr (7, [.int v_limit, .int v_made, .ref a_inputs, .ref a_outputs, .ref a_source, .ref a_index, .ref a_secret, .ref a_lock, .ref a_amount, .ref a_id, .int v_blocks, .ref a_parents, .ref a_parent, .ref a_holds, .ref a_held, .ref a_blockLock, .ref a_hash, .long v_dag, .ref a_past, .ref a_blues, .ref a_score, .ref a_selected, .int v_orphans, .ref a_orphan, .int v_pooled, .ref a_pool, .int v_places, .ref a_order, .ref a_merged, .ref a_accepted, .ref a_free, .ref a_coin, .ref a_worth])), (a_parents, .inl (cI, 62, .inl f_parents)), (a_parent, .inl (cI, 248, .inl g72))] := hD
        refine lv_aload_n (pc := 73) hx hb d_mm_parent_73 rfl (lv_at hl 0 rfl) ?_
        refine gf_mm_38 (pc := 74) hx hb hw hN hown hK hP 0 rfl rfl d_mm_parent_74 ?_
        refine lv_bipush (pc := 77) (v := 60) hx hb d_mm_parent_77 (by decide) ?_
        refine lv_dup2_11 (pc := 79) hx hb d_mm_parent_79 rfl rfl ?_
        obtain ⟨v80, hi80, e80, h⟩ := mo_rI_e h
        refine mo_iald (pc := 80) hx hb hK hP 1 0 rfl rfl hi80 e80 d_mm_parent_80 ?_
        refine lv_iconst (pc := 81) (v := 1) hx hb d_mm_parent_81 (by decide) ?_
        refine lv_iadd (pc := 82) hx hb d_mm_parent_82 ?_
        obtain ⟨g83, hi83, e83, h⟩ := mo_wI_e h
        refine mo_iast (pc := 83) hx hb hK hP hD hS 1 0 rfl rfl hi83 e83 d_mm_parent_83 (fun H locs hP hD hS => ?_)
        have hP : va_P D cl [(a_this, .inr (7, [.int v_limit, .int v_made, .ref a_inputs, .ref a_outputs, .ref a_source, .ref a_index, .ref a_secret, .ref a_lock, .ref a_amount, .ref a_id, .int v_blocks, .ref a_parents, .ref a_parent, .ref a_holds, .ref a_held, .ref a_blockLock, .ref a_hash, .long v_dag, .ref a_past, .ref a_blues, .ref a_score, .ref a_selected, .int v_orphans, .ref a_orphan, .int v_pooled, .ref a_pool, .int v_places, .ref a_order, .ref a_merged, .ref a_accepted, .ref a_free, .ref a_coin, .ref a_worth])), (a_parents, .inl (cI, 62, .inl g83)), (a_parent, .inl (cI, 248, .inl g72))] H := hP
        have hD : va_D A [(a_this, .inr (7, [.int v_limit, .int v_made, .ref a_inputs, .ref a_outputs, .ref a_source, .ref a_index, .ref a_secret, .ref a_lock, .ref a_amount, .ref a_id, .int v_blocks, .ref a_parents, .ref a_parent, .ref a_holds, .ref a_held, .ref a_blockLock, .ref a_hash, .long v_dag, .ref a_past, .ref a_blues, .ref a_score, .ref a_selected, .int v_orphans, .ref a_orphan, .int v_pooled, .ref a_pool, .int v_places, .ref a_order, .ref a_merged, .ref a_accepted, .ref a_free, .ref a_coin, .ref a_worth])), (a_parents, .inl (cI, 62, .inl g83)), (a_parent, .inl (cI, 248, .inl g72))] := hD
        refine lv_iconst (pc := 84) (v := 1) hx hb d_mm_parent_84 (by decide) ?_
        exact mo_retZm (mo_nz (by decide)) hx hb hr hlocks hQ hA2 h hP hS d_mm_parent_85 rfl
      exact mo_lp_i (step := (m_mm_parent_L23 f_parents f_parent x1 j56)) (o := o) (fun (z23_2 : Int32) => ∀ (ls : Array Slot) (H : Heap) (locs : List Loc) (hP : va_P D cl [(a_this, .inr (7, [.int v_limit, .int v_made, .ref a_inputs, .ref a_outputs, .ref a_source, .ref a_index, .ref a_secret, .ref a_lock, .ref a_amount, .ref a_id, .int v_blocks, .ref a_parents, .ref a_parent, .ref a_holds, .ref a_held, .ref a_blockLock, .ref a_hash, .long v_dag, .ref a_past, .ref a_blues, .ref a_score, .ref a_selected, .int v_orphans, .ref a_orphan, .int v_pooled, .ref a_pool, .int v_places, .ref a_order, .ref a_merged, .ref a_accepted, .ref a_free, .ref a_coin, .ref a_worth])), (a_parents, .inl (cI, 62, .inl f_parents)), (a_parent, .inl (cI, 248, .inl f_parent))] H) (hD : va_D A [(a_this, .inr (7, [.int v_limit, .int v_made, .ref a_inputs, .ref a_outputs, .ref a_source, .ref a_index, .ref a_secret, .ref a_lock, .ref a_amount, .ref a_id, .int v_blocks, .ref a_parents, .ref a_parent, .ref a_holds, .ref a_held, .ref a_blockLock, .ref a_hash, .long v_dag, .ref a_past, .ref a_blues, .ref a_score, .ref a_selected, .int v_orphans, .ref a_orphan, .int v_pooled, .ref a_pool, .int v_places, .ref a_order, .ref a_merged, .ref a_accepted, .ref a_free, .ref a_coin, .ref a_worth])), (a_parents, .inl (cI, 62, .inl f_parents)), (a_parent, .inl (cI, 248, .inl f_parent))]) (hS : va_S A s.heap H locs) (hl : lv_has ls 3 [(0, .ref a_this), (1, .int x1), (2, .int z23_2)]), W p l e rm_mm_parent s m args below meth c H locs 0 0 Q (F0 m 23 ls [])) (by
          intro bk23 hb23 z23_2 h ls H locs hP hD hS hl
          unfold m_mm_parent_L23 at h
          try dsimp only at h
          refine lv_iload_n (pc := 23) hx hb d_mm_parent_23 rfl (lv_at hl 2 rfl) ?_
          refine lv_aload_n (pc := 24) hx hb d_mm_parent_24 rfl (lv_at hl 0 rfl) ?_
          refine gf_mm_38 (pc := 25) hx hb hw hN hown hK hP 0 rfl rfl d_mm_parent_25 ?_
          refine lv_bipush (pc := 28) (v := 60) hx hb d_mm_parent_28 (by decide) ?_
          obtain ⟨v30, hi30, e30, h⟩ := mo_rI_e h
          refine mo_iald (pc := 30) hx hb hK hP 1 0 rfl rfl hi30 e30 d_mm_parent_30 ?_
          refine lv_icmp_ge (pc := 31) (tgt := 56) hx hb d_mm_parent_31 rfl (fun hc => ?_) (fun hc => ?_)
          · have h := mo_t hc h
            exact B56 _ _ _ hP hD hS (lv_sub hl [0, 1] rfl) h
          · have h := mo_f hc h
            refine lv_aload_n (pc := 34) hx hb d_mm_parent_34 rfl (lv_at hl 0 rfl) ?_
            refine gf_mm_41 (pc := 35) hx hb hw hN hown hK hP 0 rfl rfl d_mm_parent_35 ?_
            refine lv_sipush (pc := 38) (v := 240) hx hb d_mm_parent_38 (by decide) ?_
            refine lv_iload_n (pc := 41) hx hb d_mm_parent_41 rfl (lv_at hl 2 rfl) ?_
            refine lv_iadd (pc := 42) hx hb d_mm_parent_42 ?_
            obtain ⟨v43, hi43, e43, h⟩ := mo_rI_e h
            refine mo_iald (pc := 43) hx hb hK hP 2 0 rfl rfl hi43 e43 d_mm_parent_43 ?_
            refine lv_iload_n (pc := 44) hx hb d_mm_parent_44 rfl (lv_at hl 1 rfl) ?_
            refine lv_icmp_ne (pc := 45) (tgt := 50) hx hb d_mm_parent_45 rfl (fun hc => ?_) (fun hc => ?_)
            · have h := mo_f hc h
              refine lv_iinc (pc := 50) (k := 2) (v := z23_2 + 1) (lv' := [(2, .int (z23_2 + 1)), (0, .ref a_this), (1, .int x1)]) hx hb d_mm_parent_50 hl rfl (mo_inc1 _) (by decide) rfl (fun ls hl => ?_)
              refine lv_goto (pc := 53) (tgt := 23) hx hb d_mm_parent_53 rfl ?_
              exact hb23 (z23_2 + 1) h _ _ _ hP hD hS (lv_sub hl [1, 2, 0] rfl)
            · have h := mo_t hc h
              refine lv_iconst (pc := 48) (v := 0) hx hb d_mm_parent_48 (by decide) ?_
              exact mo_retZm (mo_nz (by decide)) hx hb hr hlocks hQ hA2 h hP hS d_mm_parent_49 rfl
        ) _ _ h _ _ _ hP hD hS (lv_sub hl [1, 2, 0] rfl)
    · have h := mo_t hc h
      refine lv_iconst (pc := 19) (v := 0) hx hb d_mm_parent_19 (by decide) ?_
      exact mo_retZm (mo_nz (by decide)) hx hb hr hlocks hQ hA2 h hP hS d_mm_parent_20 rfl
set_option maxRecDepth 100000 in
set_option maxHeartbeats 4000000 in
theorem c_mm_include (l : Launch) (D : va_G) (cI cL cZ : ClassId) (a_this : Nat) (a_holds : Nat) (a_held : Nat) (a_inputs : Nat) (a_outputs : Nat) (a_source : Nat) (a_index : Nat) (a_secret : Nat) (a_lock : Nat) (a_amount : Nat) (a_id : Nat) (a_parents : Nat) (a_parent : Nat) (a_blockLock : Nat) (a_hash : Nat) (a_past : Nat) (a_blues : Nat) (a_score : Nat) (a_selected : Nat) (a_orphan : Nat) (a_pool : Nat) (a_order : Nat) (a_merged : Nat) (a_accepted : Nat) (a_free : Nat) (a_coin : Nat) (a_worth : Nat) (v_limit : Int32) (v_made : Int32) (v_blocks : Int32) (v_dag : Int64) (v_orphans : Int32) (v_pooled : Int32) (v_places : Int32) (f_holds : Nat → Int32) (f_held : Nat → Int32) (x1 : Int32) (o : Int32 × (Nat → Int32) × (Nat → Int32)) (h : m_mm_include v_made f_holds f_held x1 = some o) : Met l y_mm_include (Cond.code y_mm_include b_mm_include 3 (some .boolean) :: WG) rm_mm_include (va_Pc [.ref a_this, .int x1] (mo_Pm D [(cI, .int), (cL, .long), (cZ, .boolean)] [(a_this, .inr (7, [.int v_limit, .int v_made, .ref a_inputs, .ref a_outputs, .ref a_source, .ref a_index, .ref a_secret, .ref a_lock, .ref a_amount, .ref a_id, .int v_blocks, .ref a_parents, .ref a_parent, .ref a_holds, .ref a_held, .ref a_blockLock, .ref a_hash, .long v_dag, .ref a_past, .ref a_blues, .ref a_score, .ref a_selected, .int v_orphans, .ref a_orphan, .int v_pooled, .ref a_pool, .int v_places, .ref a_order, .ref a_merged, .ref a_accepted, .ref a_free, .ref a_coin, .ref a_worth])), (a_holds, .inl (cI, 62, .inl f_holds)), (a_held, .inl (cI, 186, .inl f_held))])) (mo_Qm D [(a_this, .inr (7, [.int v_limit, .int v_made, .ref a_inputs, .ref a_outputs, .ref a_source, .ref a_index, .ref a_secret, .ref a_lock, .ref a_amount, .ref a_id, .int v_blocks, .ref a_parents, .ref a_parent, .ref a_holds, .ref a_held, .ref a_blockLock, .ref a_hash, .long v_dag, .ref a_past, .ref a_blues, .ref a_score, .ref a_selected, .int v_orphans, .ref a_orphan, .int v_pooled, .ref a_pool, .int v_places, .ref a_order, .ref a_merged, .ref a_accepted, .ref a_free, .ref a_coin, .ref a_worth])), (a_holds, .inl (cI, 62, .inl f_holds)), (a_held, .inl (cI, 186, .inl f_held))] (fun (o : Int32 × (Nat → Int32) × (Nat → Int32)) => [(a_this, .inr (7, [.int v_limit, .int v_made, .ref a_inputs, .ref a_outputs, .ref a_source, .ref a_index, .ref a_secret, .ref a_lock, .ref a_amount, .ref a_id, .int v_blocks, .ref a_parents, .ref a_parent, .ref a_holds, .ref a_held, .ref a_blockLock, .ref a_hash, .long v_dag, .ref a_past, .ref a_blues, .ref a_score, .ref a_selected, .int v_orphans, .ref a_orphan, .int v_pooled, .ref a_pool, .int v_places, .ref a_order, .ref a_merged, .ref a_accepted, .ref a_free, .ref a_coin, .ref a_worth])), (a_holds, .inl (cI, 62, .inl o.2.1)), (a_held, .inl (cI, 186, .inl o.2.2))]) (fun (o : Int32 × (Nat → Int32) × (Nat → Int32)) => (some (.int o.1))) o) 0 0 (mo_A [(a_this, .inr (7, [.int v_limit, .int v_made, .ref a_inputs, .ref a_outputs, .ref a_source, .ref a_index, .ref a_secret, .ref a_lock, .ref a_amount, .ref a_id, .int v_blocks, .ref a_parents, .ref a_parent, .ref a_holds, .ref a_held, .ref a_blockLock, .ref a_hash, .long v_dag, .ref a_past, .ref a_blues, .ref a_score, .ref a_selected, .int v_orphans, .ref a_orphan, .int v_pooled, .ref a_pool, .int v_places, .ref a_order, .ref a_merged, .ref a_accepted, .ref a_free, .ref a_coin, .ref a_worth])), (a_holds, .inl (cI, 62, .inl f_holds)), (a_held, .inl (cI, 186, .inl f_held))]) := by
  refine mo_start (by decide) (Nat.le_of_ble_eq_true rfl) ?_
  intro p e s m args below meth c hx hb hr hlocks hml hown hw hv ls hl Q hQ
  obtain ⟨hP, hK, hN, hD0⟩ := hv
  have hl : lv_has ls 3 [(0, .ref a_this), (1, .int x1)] := hl
  obtain ⟨A, hA2⟩ : ∃ A, A = mo_A [(a_this, .inr (7, [.int v_limit, .int v_made, .ref a_inputs, .ref a_outputs, .ref a_source, .ref a_index, .ref a_secret, .ref a_lock, .ref a_amount, .ref a_id, .int v_blocks, .ref a_parents, .ref a_parent, .ref a_holds, .ref a_held, .ref a_blockLock, .ref a_hash, .long v_dag, .ref a_past, .ref a_blues, .ref a_score, .ref a_selected, .int v_orphans, .ref a_orphan, .int v_pooled, .ref a_pool, .int v_places, .ref a_order, .ref a_merged, .ref a_accepted, .ref a_free, .ref a_coin, .ref a_worth])), (a_holds, .inl (cI, 62, .inl f_holds)), (a_held, .inl (cI, 186, .inl f_held))] := ⟨_, rfl⟩
  have hD : va_D A [(a_this, .inr (7, [.int v_limit, .int v_made, .ref a_inputs, .ref a_outputs, .ref a_source, .ref a_index, .ref a_secret, .ref a_lock, .ref a_amount, .ref a_id, .int v_blocks, .ref a_parents, .ref a_parent, .ref a_holds, .ref a_held, .ref a_blockLock, .ref a_hash, .long v_dag, .ref a_past, .ref a_blues, .ref a_score, .ref a_selected, .int v_orphans, .ref a_orphan, .int v_pooled, .ref a_pool, .int v_places, .ref a_order, .ref a_merged, .ref a_accepted, .ref a_free, .ref a_coin, .ref a_worth])), (a_holds, .inl (cI, 62, .inl f_holds)), (a_held, .inl (cI, 186, .inl f_held))] := hA2 ▸ mo_self hD0
  have hS : va_S A s.heap s.heap [] := va_S.rf
  unfold m_mm_include at h
  refine lv_iload_n (pc := 0) hx hb d_mm_include_0 rfl (lv_at hl 1 rfl) ?_
  refine lv_if_lt (pc := 1) (tgt := 23) hx hb d_mm_include_1 rfl (fun hc => ?_) (fun hc => ?_)
  · have h := mo_t hc h
    refine lv_iconst (pc := 23) (v := 0) hx hb d_mm_include_23 (by decide) ?_
    exact mo_retZm (mo_nz (by decide)) hx hb hr hlocks hQ hA2 h hP hS d_mm_include_24 rfl
  · have h := mo_f hc h
    refine lv_iload_n (pc := 4) hx hb d_mm_include_4 rfl (lv_at hl 1 rfl) ?_
    refine lv_aload_n (pc := 5) hx hb d_mm_include_5 rfl (lv_at hl 0 rfl) ?_
    refine gf_mm_110 (pc := 6) hx hb hw hN hown hK hP 0 rfl rfl d_mm_include_6 ?_
    refine lv_icmp_ge (pc := 9) (tgt := 23) hx hb d_mm_include_9 rfl (fun hc => ?_) (fun hc => ?_)
    · have h := mo_t hc h
      refine lv_iconst (pc := 23) (v := 0) hx hb d_mm_include_23 (by decide) ?_
      exact mo_retZm (mo_nz (by decide)) hx hb hr hlocks hQ hA2 h hP hS d_mm_include_24 rfl
    · have h := mo_f hc h
      refine lv_aload_n (pc := 12) hx hb d_mm_include_12 rfl (lv_at hl 0 rfl) ?_
      refine gf_mm_44 (pc := 13) hx hb hw hN hown hK hP 0 rfl rfl d_mm_include_13 ?_
      refine lv_bipush (pc := 16) (v := 60) hx hb d_mm_include_16 (by decide) ?_
      obtain ⟨v18, hi18, e18, h⟩ := mo_rI_e h
      refine mo_iald (pc := 18) hx hb hK hP 1 0 rfl rfl hi18 e18 d_mm_include_18 ?_
      refine lv_iconst (pc := 19) (v := 3) hx hb d_mm_include_19 (by decide) ?_
      refine lv_icmp_ne (pc := 20) (tgt := 25) hx hb d_mm_include_20 rfl (fun hc => ?_) (fun hc => ?_)
      · have h := mo_f hc h
        refine lv_iconst (pc := 25) (v := 0) hx hb d_mm_include_25 (by decide) ?_
        refine lv_istore_n (pc := 26) (lv' := [(2, .int 0), (0, .ref a_this), (1, .int x1)]) hx hb d_mm_include_26 rfl hl (by decide) rfl (fun ls hl => ?_)
        obtain ⟨j60, ej60, h⟩ := mo_jn_e h
        have B60 : ∀ (ls : Array Slot) (H : Heap) (locs : List Loc) (hP : va_P D cl [(a_this, .inr (7, [.int v_limit, .int v_made, .ref a_inputs, .ref a_outputs, .ref a_source, .ref a_index, .ref a_secret, .ref a_lock, .ref a_amount, .ref a_id, .int v_blocks, .ref a_parents, .ref a_parent, .ref a_holds, .ref a_held, .ref a_blockLock, .ref a_hash, .long v_dag, .ref a_past, .ref a_blues, .ref a_score, .ref a_selected, .int v_orphans, .ref a_orphan, .int v_pooled, .ref a_pool, .int v_places, .ref a_order, .ref a_merged, .ref a_accepted, .ref a_free, .ref a_coin, .ref a_worth])), (a_holds, .inl (cI, 62, .inl f_holds)), (a_held, .inl (cI, 186, .inl f_held))] H) (hD : va_D A [(a_this, .inr (7, [.int v_limit, .int v_made, .ref a_inputs, .ref a_outputs, .ref a_source, .ref a_index, .ref a_secret, .ref a_lock, .ref a_amount, .ref a_id, .int v_blocks, .ref a_parents, .ref a_parent, .ref a_holds, .ref a_held, .ref a_blockLock, .ref a_hash, .long v_dag, .ref a_past, .ref a_blues, .ref a_score, .ref a_selected, .int v_orphans, .ref a_orphan, .int v_pooled, .ref a_pool, .int v_places, .ref a_order, .ref a_merged, .ref a_accepted, .ref a_free, .ref a_coin, .ref a_worth])), (a_holds, .inl (cI, 62, .inl f_holds)), (a_held, .inl (cI, 186, .inl f_held))]) (hS : va_S A s.heap H locs) (hl : lv_has ls 3 [(0, .ref a_this), (1, .int x1)]) (h : j60 = some o), W p l e rm_mm_include s m args below meth c H locs 0 0 Q (F0 m 60 ls []) := by
          intro ls H locs hP hD hS hl h
          have h := mo_a0 ej60 h
          refine lv_aload_n (pc := 60) hx hb d_mm_include_60 rfl (lv_at hl 0 rfl) ?_
          refine gf_mm_47 (pc := 61) hx hb hw hN hown hK hP 0 rfl rfl d_mm_include_61 ?_
          refine lv_sipush (pc := 64) (v := 180) hx hb d_mm_include_64 (by decide) ?_
          refine lv_aload_n (pc := 67) hx hb d_mm_include_67 rfl (lv_at hl 0 rfl) ?_
          refine gf_mm_44 (pc := 68) hx hb hw hN hown hK hP 0 rfl rfl d_mm_include_68 ?_
          refine lv_bipush (pc := 71) (v := 60) hx hb d_mm_include_71 (by decide) ?_
          obtain ⟨v73, hi73, e73, h⟩ := mo_rI_e h
          refine mo_iald (pc := 73) hx hb hK hP 1 0 rfl rfl hi73 e73 d_mm_include_73 ?_
          refine lv_iadd (pc := 74) hx hb d_mm_include_74 ?_
          refine lv_iload_n (pc := 75) hx hb d_mm_include_75 rfl (lv_at hl 1 rfl) ?_
          obtain ⟨g76, hi76, e76, h⟩ := mo_wI_e h
          refine mo_iast (pc := 76) hx hb hK hP hD hS 2 0 rfl rfl hi76 e76 d_mm_include_76 (fun H locs hP hD hS => ?_)
          have hP : va_P D cl [(a_this, .inr (7, [.int v_limit, .int v_made, .ref a_inputs, .ref a_outputs, .ref a_source, .ref a_index, .ref a_secret, .ref a_lock, .ref a_amount, .ref a_id, .int v_blocks, .ref a_parents, .ref a_parent, .ref a_holds, .ref a_held, .ref a_blockLock, .ref a_hash, .long v_dag, .ref a_past, .ref a_blues, .ref a_score, .ref a_selected, .int v_orphans, .ref a_orphan, .int v_pooled, .ref a_pool, .int v_places, .ref a_order, .ref a_merged, .ref a_accepted, .ref a_free, .ref a_coin, .ref a_worth])), (a_holds, .inl (cI, 62, .inl f_holds)), (a_held, .inl (cI, 186, .inl g76))] H := hP
          have hD : va_D A [(a_this, .inr (7, [.int v_limit, .int v_made, .ref a_inputs, .ref a_outputs, .ref a_source, .ref a_index, .ref a_secret, .ref a_lock, .ref a_amount, .ref a_id, .int v_blocks, .ref a_parents, .ref a_parent, .ref a_holds, .ref a_held, .ref a_blockLock, .ref a_hash, .long v_dag, .ref a_past, .ref a_blues, .ref a_score, .ref a_selected, .int v_orphans, .ref a_orphan, .int v_pooled, .ref a_pool, .int v_places, .ref a_order, .ref a_merged, .ref a_accepted, .ref a_free, .ref a_coin, .ref a_worth])), (a_holds, .inl (cI, 62, .inl f_holds)), (a_held, .inl (cI, 186, .inl g76))] := hD
          refine lv_aload_n (pc := 77) hx hb d_mm_include_77 rfl (lv_at hl 0 rfl) ?_
          refine gf_mm_44 (pc := 78) hx hb hw hN hown hK hP 0 rfl rfl d_mm_include_78 ?_
          refine lv_bipush (pc := 81) (v := 60) hx hb d_mm_include_81 (by decide) ?_
          refine lv_dup2_11 (pc := 83) hx hb d_mm_include_83 rfl rfl ?_
          obtain ⟨v84, hi84, e84, h⟩ := mo_rI_e h
          refine mo_iald (pc := 84) hx hb hK hP 1 0 rfl rfl hi84 e84 d_mm_include_84 ?_
          refine lv_iconst (pc := 85) (v := 1) hx hb d_mm_include_85 (by decide) ?_
          refine lv_iadd (pc := 86) hx hb d_mm_include_86 ?_
          obtain ⟨g87, hi87, e87, h⟩ := mo_wI_e h
          refine mo_iast (pc := 87) hx hb hK hP hD hS 1 0 rfl rfl hi87 e87 d_mm_include_87 (fun H locs hP hD hS => ?_)
          have hP : va_P D cl [(a_this, .inr (7, [.int v_limit, .int v_made, .ref a_inputs, .ref a_outputs, .ref a_source, .ref a_index, .ref a_secret, .ref a_lock, .ref a_amount, .ref a_id, .int v_blocks, .ref a_parents, .ref a_parent, .ref a_holds, .ref a_held, .ref a_blockLock, .ref a_hash, .long v_dag, .ref a_past, .ref a_blues, .ref a_score, .ref a_selected, .int v_orphans, .ref a_orphan, .int v_pooled, .ref a_pool, .int v_places, .ref a_order, .ref a_merged, .ref a_accepted, .ref a_free, .ref a_coin, .ref a_worth])), (a_holds, .inl (cI, 62, .inl g87)), (a_held, .inl (cI, 186, .inl g76))] H := hP
          have hD : va_D A [(a_this, .inr (7, [.int v_limit, .int v_made, .ref a_inputs, .ref a_outputs, .ref a_source, .ref a_index, .ref a_secret, .ref a_lock, .ref a_amount, .ref a_id, .int v_blocks, .ref a_parents, .ref a_parent, .ref a_holds, .ref a_held, .ref a_blockLock, .ref a_hash, .long v_dag, .ref a_past, .ref a_blues, .ref a_score, .ref a_selected, .int v_orphans, .ref a_orphan, .int v_pooled, .ref a_pool, .int v_places, .ref a_order, .ref a_merged, .ref a_accepted, .ref a_free, .ref a_coin, .ref a_worth])), (a_holds, .inl (cI, 62, .inl g87)), (a_held, .inl (cI, 186, .inl g76))] := hD
          refine lv_iconst (pc := 88) (v := 1) hx hb d_mm_include_88 (by decide) ?_
          exact mo_retZm (mo_nz (by decide)) hx hb hr hlocks hQ hA2 h hP hS d_mm_include_89 rfl
        exact mo_lp_i (step := (m_mm_include_L27 f_holds f_held x1 j60)) (o := o) (fun (z27_2 : Int32) => ∀ (ls : Array Slot) (H : Heap) (locs : List Loc) (hP : va_P D cl [(a_this, .inr (7, [.int v_limit, .int v_made, .ref a_inputs, .ref a_outputs, .ref a_source, .ref a_index, .ref a_secret, .ref a_lock, .ref a_amount, .ref a_id, .int v_blocks, .ref a_parents, .ref a_parent, .ref a_holds, .ref a_held, .ref a_blockLock, .ref a_hash, .long v_dag, .ref a_past, .ref a_blues, .ref a_score, .ref a_selected, .int v_orphans, .ref a_orphan, .int v_pooled, .ref a_pool, .int v_places, .ref a_order, .ref a_merged, .ref a_accepted, .ref a_free, .ref a_coin, .ref a_worth])), (a_holds, .inl (cI, 62, .inl f_holds)), (a_held, .inl (cI, 186, .inl f_held))] H) (hD : va_D A [(a_this, .inr (7, [.int v_limit, .int v_made, .ref a_inputs, .ref a_outputs, .ref a_source, .ref a_index, .ref a_secret, .ref a_lock, .ref a_amount, .ref a_id, .int v_blocks, .ref a_parents, .ref a_parent, .ref a_holds, .ref a_held, .ref a_blockLock, .ref a_hash, .long v_dag, .ref a_past, .ref a_blues, .ref a_score, .ref a_selected, .int v_orphans, .ref a_orphan, .int v_pooled, .ref a_pool, .int v_places, .ref a_order, .ref a_merged, .ref a_accepted, .ref a_free, .ref a_coin, .ref a_worth])), (a_holds, .inl (cI, 62, .inl f_holds)), (a_held, .inl (cI, 186, .inl f_held))]) (hS : va_S A s.heap H locs) (hl : lv_has ls 3 [(0, .ref a_this), (1, .int x1), (2, .int z27_2)]), W p l e rm_mm_include s m args below meth c H locs 0 0 Q (F0 m 27 ls [])) (by
            intro bk27 hb27 z27_2 h ls H locs hP hD hS hl
            unfold m_mm_include_L27 at h
            try dsimp only at h
            refine lv_iload_n (pc := 27) hx hb d_mm_include_27 rfl (lv_at hl 2 rfl) ?_
            refine lv_aload_n (pc := 28) hx hb d_mm_include_28 rfl (lv_at hl 0 rfl) ?_
            refine gf_mm_44 (pc := 29) hx hb hw hN hown hK hP 0 rfl rfl d_mm_include_29 ?_
            refine lv_bipush (pc := 32) (v := 60) hx hb d_mm_include_32 (by decide) ?_
            obtain ⟨v34, hi34, e34, h⟩ := mo_rI_e h
            refine mo_iald (pc := 34) hx hb hK hP 1 0 rfl rfl hi34 e34 d_mm_include_34 ?_
            refine lv_icmp_ge (pc := 35) (tgt := 60) hx hb d_mm_include_35 rfl (fun hc => ?_) (fun hc => ?_)
            · have h := mo_t hc h
              exact B60 _ _ _ hP hD hS (lv_sub hl [0, 1] rfl) h
            · have h := mo_f hc h
              refine lv_aload_n (pc := 38) hx hb d_mm_include_38 rfl (lv_at hl 0 rfl) ?_
              refine gf_mm_47 (pc := 39) hx hb hw hN hown hK hP 0 rfl rfl d_mm_include_39 ?_
              refine lv_sipush (pc := 42) (v := 180) hx hb d_mm_include_42 (by decide) ?_
              refine lv_iload_n (pc := 45) hx hb d_mm_include_45 rfl (lv_at hl 2 rfl) ?_
              refine lv_iadd (pc := 46) hx hb d_mm_include_46 ?_
              obtain ⟨v47, hi47, e47, h⟩ := mo_rI_e h
              refine mo_iald (pc := 47) hx hb hK hP 2 0 rfl rfl hi47 e47 d_mm_include_47 ?_
              refine lv_iload_n (pc := 48) hx hb d_mm_include_48 rfl (lv_at hl 1 rfl) ?_
              refine lv_icmp_ne (pc := 49) (tgt := 54) hx hb d_mm_include_49 rfl (fun hc => ?_) (fun hc => ?_)
              · have h := mo_f hc h
                refine lv_iinc (pc := 54) (k := 2) (v := z27_2 + 1) (lv' := [(2, .int (z27_2 + 1)), (0, .ref a_this), (1, .int x1)]) hx hb d_mm_include_54 hl rfl (mo_inc1 _) (by decide) rfl (fun ls hl => ?_)
                refine lv_goto (pc := 57) (tgt := 27) hx hb d_mm_include_57 rfl ?_
                exact hb27 (z27_2 + 1) h _ _ _ hP hD hS (lv_sub hl [1, 2, 0] rfl)
              · have h := mo_t hc h
                refine lv_iconst (pc := 52) (v := 0) hx hb d_mm_include_52 (by decide) ?_
                exact mo_retZm (mo_nz (by decide)) hx hb hr hlocks hQ hA2 h hP hS d_mm_include_53 rfl
          ) _ _ h _ _ _ hP hD hS (lv_sub hl [1, 2, 0] rfl)
      · have h := mo_t hc h
        refine lv_iconst (pc := 23) (v := 0) hx hb d_mm_include_23 (by decide) ?_
        exact mo_retZm (mo_nz (by decide)) hx hb hr hlocks hQ hA2 h hP hS d_mm_include_24 rfl
set_option maxRecDepth 100000 in
set_option maxHeartbeats 4000000 in
theorem c_mm_clear (l : Launch) (D : va_G) (cI cL cZ : ClassId) (a_this : Nat) (a_inputs : Nat) (a_outputs : Nat) (a_parents : Nat) (a_holds : Nat) (a_source : Nat) (a_index : Nat) (a_secret : Nat) (a_lock : Nat) (a_amount : Nat) (a_id : Nat) (a_parent : Nat) (a_held : Nat) (a_blockLock : Nat) (a_hash : Nat) (a_past : Nat) (a_blues : Nat) (a_score : Nat) (a_selected : Nat) (a_orphan : Nat) (a_pool : Nat) (a_order : Nat) (a_merged : Nat) (a_accepted : Nat) (a_free : Nat) (a_coin : Nat) (a_worth : Nat) (v_limit : Int32) (v_made : Int32) (v_blocks : Int32) (v_dag : Int64) (v_orphans : Int32) (v_pooled : Int32) (v_places : Int32) (f_inputs : Nat → Int32) (f_outputs : Nat → Int32) (f_parents : Nat → Int32) (f_holds : Nat → Int32) (o : (Nat → Int32) × (Nat → Int32) × (Nat → Int32) × (Nat → Int32)) (h : m_mm_clear f_inputs f_outputs f_parents f_holds = some o) : Met l y_mm_clear (Cond.code y_mm_clear b_mm_clear 1 none :: WG) rm_mm_clear (va_Pc [.ref a_this] (mo_Pm D [(cI, .int), (cL, .long), (cZ, .boolean)] [(a_this, .inr (7, [.int v_limit, .int v_made, .ref a_inputs, .ref a_outputs, .ref a_source, .ref a_index, .ref a_secret, .ref a_lock, .ref a_amount, .ref a_id, .int v_blocks, .ref a_parents, .ref a_parent, .ref a_holds, .ref a_held, .ref a_blockLock, .ref a_hash, .long v_dag, .ref a_past, .ref a_blues, .ref a_score, .ref a_selected, .int v_orphans, .ref a_orphan, .int v_pooled, .ref a_pool, .int v_places, .ref a_order, .ref a_merged, .ref a_accepted, .ref a_free, .ref a_coin, .ref a_worth])), (a_inputs, .inl (cI, 41, .inl f_inputs)), (a_outputs, .inl (cI, 41, .inl f_outputs)), (a_parents, .inl (cI, 62, .inl f_parents)), (a_holds, .inl (cI, 62, .inl f_holds))])) (mo_Qm D [(a_this, .inr (7, [.int v_limit, .int v_made, .ref a_inputs, .ref a_outputs, .ref a_source, .ref a_index, .ref a_secret, .ref a_lock, .ref a_amount, .ref a_id, .int v_blocks, .ref a_parents, .ref a_parent, .ref a_holds, .ref a_held, .ref a_blockLock, .ref a_hash, .long v_dag, .ref a_past, .ref a_blues, .ref a_score, .ref a_selected, .int v_orphans, .ref a_orphan, .int v_pooled, .ref a_pool, .int v_places, .ref a_order, .ref a_merged, .ref a_accepted, .ref a_free, .ref a_coin, .ref a_worth])), (a_inputs, .inl (cI, 41, .inl f_inputs)), (a_outputs, .inl (cI, 41, .inl f_outputs)), (a_parents, .inl (cI, 62, .inl f_parents)), (a_holds, .inl (cI, 62, .inl f_holds))] (fun (o : (Nat → Int32) × (Nat → Int32) × (Nat → Int32) × (Nat → Int32)) => [(a_this, .inr (7, [.int v_limit, .int v_made, .ref a_inputs, .ref a_outputs, .ref a_source, .ref a_index, .ref a_secret, .ref a_lock, .ref a_amount, .ref a_id, .int v_blocks, .ref a_parents, .ref a_parent, .ref a_holds, .ref a_held, .ref a_blockLock, .ref a_hash, .long v_dag, .ref a_past, .ref a_blues, .ref a_score, .ref a_selected, .int v_orphans, .ref a_orphan, .int v_pooled, .ref a_pool, .int v_places, .ref a_order, .ref a_merged, .ref a_accepted, .ref a_free, .ref a_coin, .ref a_worth])), (a_inputs, .inl (cI, 41, .inl o.1)), (a_outputs, .inl (cI, 41, .inl o.2.1)), (a_parents, .inl (cI, 62, .inl o.2.2.1)), (a_holds, .inl (cI, 62, .inl o.2.2.2))]) (fun (o : (Nat → Int32) × (Nat → Int32) × (Nat → Int32) × (Nat → Int32)) => none) o) 0 0 (mo_A [(a_this, .inr (7, [.int v_limit, .int v_made, .ref a_inputs, .ref a_outputs, .ref a_source, .ref a_index, .ref a_secret, .ref a_lock, .ref a_amount, .ref a_id, .int v_blocks, .ref a_parents, .ref a_parent, .ref a_holds, .ref a_held, .ref a_blockLock, .ref a_hash, .long v_dag, .ref a_past, .ref a_blues, .ref a_score, .ref a_selected, .int v_orphans, .ref a_orphan, .int v_pooled, .ref a_pool, .int v_places, .ref a_order, .ref a_merged, .ref a_accepted, .ref a_free, .ref a_coin, .ref a_worth])), (a_inputs, .inl (cI, 41, .inl f_inputs)), (a_outputs, .inl (cI, 41, .inl f_outputs)), (a_parents, .inl (cI, 62, .inl f_parents)), (a_holds, .inl (cI, 62, .inl f_holds))]) := by
  refine mo_start (by decide) (Nat.le_of_ble_eq_true rfl) ?_
  intro p e s m args below meth c hx hb hr hlocks hml hown hw hv ls hl Q hQ
  obtain ⟨hP, hK, hN, hD0⟩ := hv
  have hl : lv_has ls 1 [(0, .ref a_this)] := hl
  obtain ⟨A, hA2⟩ : ∃ A, A = mo_A [(a_this, .inr (7, [.int v_limit, .int v_made, .ref a_inputs, .ref a_outputs, .ref a_source, .ref a_index, .ref a_secret, .ref a_lock, .ref a_amount, .ref a_id, .int v_blocks, .ref a_parents, .ref a_parent, .ref a_holds, .ref a_held, .ref a_blockLock, .ref a_hash, .long v_dag, .ref a_past, .ref a_blues, .ref a_score, .ref a_selected, .int v_orphans, .ref a_orphan, .int v_pooled, .ref a_pool, .int v_places, .ref a_order, .ref a_merged, .ref a_accepted, .ref a_free, .ref a_coin, .ref a_worth])), (a_inputs, .inl (cI, 41, .inl f_inputs)), (a_outputs, .inl (cI, 41, .inl f_outputs)), (a_parents, .inl (cI, 62, .inl f_parents)), (a_holds, .inl (cI, 62, .inl f_holds))] := ⟨_, rfl⟩
  have hD : va_D A [(a_this, .inr (7, [.int v_limit, .int v_made, .ref a_inputs, .ref a_outputs, .ref a_source, .ref a_index, .ref a_secret, .ref a_lock, .ref a_amount, .ref a_id, .int v_blocks, .ref a_parents, .ref a_parent, .ref a_holds, .ref a_held, .ref a_blockLock, .ref a_hash, .long v_dag, .ref a_past, .ref a_blues, .ref a_score, .ref a_selected, .int v_orphans, .ref a_orphan, .int v_pooled, .ref a_pool, .int v_places, .ref a_order, .ref a_merged, .ref a_accepted, .ref a_free, .ref a_coin, .ref a_worth])), (a_inputs, .inl (cI, 41, .inl f_inputs)), (a_outputs, .inl (cI, 41, .inl f_outputs)), (a_parents, .inl (cI, 62, .inl f_parents)), (a_holds, .inl (cI, 62, .inl f_holds))] := hA2 ▸ mo_self hD0
  have hS : va_S A s.heap s.heap [] := va_S.rf
  unfold m_mm_clear at h
  refine lv_aload_n (pc := 0) hx hb d_mm_clear_0 rfl (lv_at hl 0 rfl) ?_
  refine gf_mm_7 (pc := 1) hx hb hw hN hown hK hP 0 rfl rfl d_mm_clear_1 ?_
  refine lv_bipush (pc := 4) (v := 40) hx hb d_mm_clear_4 (by decide) ?_
  refine lv_iconst (pc := 6) (v := 0) hx hb d_mm_clear_6 (by decide) ?_
  obtain ⟨g7, hi7, e7, h⟩ := mo_wI_e h
  refine mo_iast (pc := 7) hx hb hK hP hD hS 1 0 rfl rfl hi7 e7 d_mm_clear_7 (fun H locs hP hD hS => ?_)
  have hP : va_P D cl [(a_this, .inr (7, [.int v_limit, .int v_made, .ref a_inputs, .ref a_outputs, .ref a_source, .ref a_index, .ref a_secret, .ref a_lock, .ref a_amount, .ref a_id, .int v_blocks, .ref a_parents, .ref a_parent, .ref a_holds, .ref a_held, .ref a_blockLock, .ref a_hash, .long v_dag, .ref a_past, .ref a_blues, .ref a_score, .ref a_selected, .int v_orphans, .ref a_orphan, .int v_pooled, .ref a_pool, .int v_places, .ref a_order, .ref a_merged, .ref a_accepted, .ref a_free, .ref a_coin, .ref a_worth])), (a_inputs, .inl (cI, 41, .inl g7)), (a_outputs, .inl (cI, 41, .inl f_outputs)), (a_parents, .inl (cI, 62, .inl f_parents)), (a_holds, .inl (cI, 62, .inl f_holds))] H := hP
  have hD : va_D A [(a_this, .inr (7, [.int v_limit, .int v_made, .ref a_inputs, .ref a_outputs, .ref a_source, .ref a_index, .ref a_secret, .ref a_lock, .ref a_amount, .ref a_id, .int v_blocks, .ref a_parents, .ref a_parent, .ref a_holds, .ref a_held, .ref a_blockLock, .ref a_hash, .long v_dag, .ref a_past, .ref a_blues, .ref a_score, .ref a_selected, .int v_orphans, .ref a_orphan, .int v_pooled, .ref a_pool, .int v_places, .ref a_order, .ref a_merged, .ref a_accepted, .ref a_free, .ref a_coin, .ref a_worth])), (a_inputs, .inl (cI, 41, .inl g7)), (a_outputs, .inl (cI, 41, .inl f_outputs)), (a_parents, .inl (cI, 62, .inl f_parents)), (a_holds, .inl (cI, 62, .inl f_holds))] := hD
  refine lv_aload_n (pc := 8) hx hb d_mm_clear_8 rfl (lv_at hl 0 rfl) ?_
  refine gf_mm_13 (pc := 9) hx hb hw hN hown hK hP 0 rfl rfl d_mm_clear_9 ?_
  refine lv_bipush (pc := 12) (v := 40) hx hb d_mm_clear_12 (by decide) ?_
  refine lv_iconst (pc := 14) (v := 0) hx hb d_mm_clear_14 (by decide) ?_
  obtain ⟨g15, hi15, e15, h⟩ := mo_wI_e h
  refine mo_iast (pc := 15) hx hb hK hP hD hS 2 0 rfl rfl hi15 e15 d_mm_clear_15 (fun H locs hP hD hS => ?_)
  have hP : va_P D cl [(a_this, .inr (7, [.int v_limit, .int v_made, .ref a_inputs, .ref a_outputs, .ref a_source, .ref a_index, .ref a_secret, .ref a_lock, .ref a_amount, .ref a_id, .int v_blocks, .ref a_parents, .ref a_parent, .ref a_holds, .ref a_held, .ref a_blockLock, .ref a_hash, .long v_dag, .ref a_past, .ref a_blues, .ref a_score, .ref a_selected, .int v_orphans, .ref a_orphan, .int v_pooled, .ref a_pool, .int v_places, .ref a_order, .ref a_merged, .ref a_accepted, .ref a_free, .ref a_coin, .ref a_worth])), (a_inputs, .inl (cI, 41, .inl g7)), (a_outputs, .inl (cI, 41, .inl g15)), (a_parents, .inl (cI, 62, .inl f_parents)), (a_holds, .inl (cI, 62, .inl f_holds))] H := hP
  have hD : va_D A [(a_this, .inr (7, [.int v_limit, .int v_made, .ref a_inputs, .ref a_outputs, .ref a_source, .ref a_index, .ref a_secret, .ref a_lock, .ref a_amount, .ref a_id, .int v_blocks, .ref a_parents, .ref a_parent, .ref a_holds, .ref a_held, .ref a_blockLock, .ref a_hash, .long v_dag, .ref a_past, .ref a_blues, .ref a_score, .ref a_selected, .int v_orphans, .ref a_orphan, .int v_pooled, .ref a_pool, .int v_places, .ref a_order, .ref a_merged, .ref a_accepted, .ref a_free, .ref a_coin, .ref a_worth])), (a_inputs, .inl (cI, 41, .inl g7)), (a_outputs, .inl (cI, 41, .inl g15)), (a_parents, .inl (cI, 62, .inl f_parents)), (a_holds, .inl (cI, 62, .inl f_holds))] := hD
  refine lv_aload_n (pc := 16) hx hb d_mm_clear_16 rfl (lv_at hl 0 rfl) ?_
  refine gf_mm_38 (pc := 17) hx hb hw hN hown hK hP 0 rfl rfl d_mm_clear_17 ?_
  refine lv_bipush (pc := 20) (v := 60) hx hb d_mm_clear_20 (by decide) ?_
  refine lv_iconst (pc := 22) (v := 0) hx hb d_mm_clear_22 (by decide) ?_
  obtain ⟨g23, hi23, e23, h⟩ := mo_wI_e h
  refine mo_iast (pc := 23) hx hb hK hP hD hS 3 0 rfl rfl hi23 e23 d_mm_clear_23 (fun H locs hP hD hS => ?_)
  have hP : va_P D cl [(a_this, .inr (7, [.int v_limit, .int v_made, .ref a_inputs, .ref a_outputs, .ref a_source, .ref a_index, .ref a_secret, .ref a_lock, .ref a_amount, .ref a_id, .int v_blocks, .ref a_parents, .ref a_parent, .ref a_holds, .ref a_held, .ref a_blockLock, .ref a_hash, .long v_dag, .ref a_past, .ref a_blues, .ref a_score, .ref a_selected, .int v_orphans, .ref a_orphan, .int v_pooled, .ref a_pool, .int v_places, .ref a_order, .ref a_merged, .ref a_accepted, .ref a_free, .ref a_coin, .ref a_worth])), (a_inputs, .inl (cI, 41, .inl g7)), (a_outputs, .inl (cI, 41, .inl g15)), (a_parents, .inl (cI, 62, .inl g23)), (a_holds, .inl (cI, 62, .inl f_holds))] H := hP
  have hD : va_D A [(a_this, .inr (7, [.int v_limit, .int v_made, .ref a_inputs, .ref a_outputs, .ref a_source, .ref a_index, .ref a_secret, .ref a_lock, .ref a_amount, .ref a_id, .int v_blocks, .ref a_parents, .ref a_parent, .ref a_holds, .ref a_held, .ref a_blockLock, .ref a_hash, .long v_dag, .ref a_past, .ref a_blues, .ref a_score, .ref a_selected, .int v_orphans, .ref a_orphan, .int v_pooled, .ref a_pool, .int v_places, .ref a_order, .ref a_merged, .ref a_accepted, .ref a_free, .ref a_coin, .ref a_worth])), (a_inputs, .inl (cI, 41, .inl g7)), (a_outputs, .inl (cI, 41, .inl g15)), (a_parents, .inl (cI, 62, .inl g23)), (a_holds, .inl (cI, 62, .inl f_holds))] := hD
  refine lv_aload_n (pc := 24) hx hb d_mm_clear_24 rfl (lv_at hl 0 rfl) ?_
  refine gf_mm_44 (pc := 25) hx hb hw hN hown hK hP 0 rfl rfl d_mm_clear_25 ?_
  refine lv_bipush (pc := 28) (v := 60) hx hb d_mm_clear_28 (by decide) ?_
  refine lv_iconst (pc := 30) (v := 0) hx hb d_mm_clear_30 (by decide) ?_
  obtain ⟨g31, hi31, e31, h⟩ := mo_wI_e h
  refine mo_iast (pc := 31) hx hb hK hP hD hS 4 0 rfl rfl hi31 e31 d_mm_clear_31 (fun H locs hP hD hS => ?_)
  have hP : va_P D cl [(a_this, .inr (7, [.int v_limit, .int v_made, .ref a_inputs, .ref a_outputs, .ref a_source, .ref a_index, .ref a_secret, .ref a_lock, .ref a_amount, .ref a_id, .int v_blocks, .ref a_parents, .ref a_parent, .ref a_holds, .ref a_held, .ref a_blockLock, .ref a_hash, .long v_dag, .ref a_past, .ref a_blues, .ref a_score, .ref a_selected, .int v_orphans, .ref a_orphan, .int v_pooled, .ref a_pool, .int v_places, .ref a_order, .ref a_merged, .ref a_accepted, .ref a_free, .ref a_coin, .ref a_worth])), (a_inputs, .inl (cI, 41, .inl g7)), (a_outputs, .inl (cI, 41, .inl g15)), (a_parents, .inl (cI, 62, .inl g23)), (a_holds, .inl (cI, 62, .inl g31))] H := hP
  have hD : va_D A [(a_this, .inr (7, [.int v_limit, .int v_made, .ref a_inputs, .ref a_outputs, .ref a_source, .ref a_index, .ref a_secret, .ref a_lock, .ref a_amount, .ref a_id, .int v_blocks, .ref a_parents, .ref a_parent, .ref a_holds, .ref a_held, .ref a_blockLock, .ref a_hash, .long v_dag, .ref a_past, .ref a_blues, .ref a_score, .ref a_selected, .int v_orphans, .ref a_orphan, .int v_pooled, .ref a_pool, .int v_places, .ref a_order, .ref a_merged, .ref a_accepted, .ref a_free, .ref a_coin, .ref a_worth])), (a_inputs, .inl (cI, 41, .inl g7)), (a_outputs, .inl (cI, 41, .inl g15)), (a_parents, .inl (cI, 62, .inl g23)), (a_holds, .inl (cI, 62, .inl g31))] := hD
  exact mo_retVm hx hb hr hlocks hQ hA2 h hP hS d_mm_clear_32 rfl
set_option maxRecDepth 100000 in
set_option maxHeartbeats 4000000 in
theorem c_mm_hashOf (l : Launch) (D : va_G) (cI cL cZ : ClassId) (a_this : Nat) (a_parents : Nat) (a_parent : Nat) (a_hash : Nat) (a_holds : Nat) (a_held : Nat) (a_id : Nat) (a_blockLock : Nat) (a_inputs : Nat) (a_outputs : Nat) (a_source : Nat) (a_index : Nat) (a_secret : Nat) (a_lock : Nat) (a_amount : Nat) (a_past : Nat) (a_blues : Nat) (a_score : Nat) (a_selected : Nat) (a_orphan : Nat) (a_pool : Nat) (a_order : Nat) (a_merged : Nat) (a_accepted : Nat) (a_free : Nat) (a_coin : Nat) (a_worth : Nat) (v_limit : Int32) (v_made : Int32) (v_blocks : Int32) (v_dag : Int64) (v_orphans : Int32) (v_pooled : Int32) (v_places : Int32) (f_parents : Nat → Int32) (f_parent : Nat → Int32) (f_hash : Nat → Int32) (f_holds : Nat → Int32) (f_held : Nat → Int32) (f_id : Nat → Int32) (f_blockLock : Nat → Int32) (x1 : Int32) (x2 : Int32) (o : Int32) (h : m_mm_hashOf f_parents f_parent f_hash f_holds f_held f_id f_blockLock x1 x2 = some o) : Met l y_mm_hashOf (Cond.code y_mm_hashOf b_mm_hashOf 5 (some .int) :: WG) rm_mm_hashOf (va_Pc [.ref a_this, .int x1, .int x2] (mo_Pr D [(cI, .int), (cL, .long), (cZ, .boolean)] [(a_this, .inr (7, [.int v_limit, .int v_made, .ref a_inputs, .ref a_outputs, .ref a_source, .ref a_index, .ref a_secret, .ref a_lock, .ref a_amount, .ref a_id, .int v_blocks, .ref a_parents, .ref a_parent, .ref a_holds, .ref a_held, .ref a_blockLock, .ref a_hash, .long v_dag, .ref a_past, .ref a_blues, .ref a_score, .ref a_selected, .int v_orphans, .ref a_orphan, .int v_pooled, .ref a_pool, .int v_places, .ref a_order, .ref a_merged, .ref a_accepted, .ref a_free, .ref a_coin, .ref a_worth])), (a_parents, .inl (cI, 62, .inl f_parents)), (a_parent, .inl (cI, 248, .inl f_parent)), (a_hash, .inl (cI, 62, .inl f_hash)), (a_holds, .inl (cI, 62, .inl f_holds)), (a_held, .inl (cI, 186, .inl f_held)), (a_id, .inl (cI, 41, .inl f_id)), (a_blockLock, .inl (cI, 62, .inl f_blockLock))])) (mo_Qr (some (.int o))) 0 0 (fun _ => False) := by
  refine mo_start (by decide) (Nat.le_of_ble_eq_true rfl) ?_
  intro p e s m args below meth c hx hb hr hlocks hml hown hw hv ls hl Q hQ
  obtain ⟨hP, hK, hN⟩ := hv
  have hl : lv_has ls 5 [(0, .ref a_this), (1, .int x1), (2, .int x2)] := hl
  unfold m_mm_hashOf at h
  refine lv_bipush (pc := 0) (v := 13) hx hb d_mm_hashOf_0 (by decide) ?_
  refine lv_istore_n (pc := 2) (lv' := [(3, .int 13), (0, .ref a_this), (1, .int x1), (2, .int x2)]) hx hb d_mm_hashOf_2 rfl hl (by decide) rfl (fun ls hl => ?_)
  refine lv_iconst (pc := 3) (v := 0) hx hb d_mm_hashOf_3 (by decide) ?_
  refine lv_istore (pc := 4) (lv' := [(4, .int 0), (3, .int 13), (0, .ref a_this), (1, .int x1), (2, .int x2)]) hx hb d_mm_hashOf_4 hl (by decide) rfl (fun ls hl => ?_)
  obtain ⟨w6, K6, eK6, hy6, hr6⟩ := mo_bd_k h
  have E6 : ∀ (y6_3 : Int32) (ls : Array Slot) (hl : lv_has ls 5 [(0, .ref a_this), (1, .int x1), (2, .int x2), (3, .int y6_3)]) (h : K6 y6_3 = some o), W p l e rm_mm_hashOf s m args below meth c s.heap [] 0 0 Q (F0 m 44 ls []) := by
    intro y6_3 ls hl h
    have h := mo_a1 eK6 h
    try dsimp only at h
    refine lv_iconst (pc := 44) (v := 0) hx hb d_mm_hashOf_44 (by decide) ?_
    refine lv_istore (pc := 45) (lv' := [(4, .int 0), (0, .ref a_this), (1, .int x1), (2, .int x2), (3, .int y6_3)]) hx hb d_mm_hashOf_45 hl (by decide) rfl (fun ls hl => ?_)
    obtain ⟨w47, K47, eK47, hy47, hr47⟩ := mo_bd_k h
    have E47 : ∀ (y47_3 : Int32) (ls : Array Slot) (hl : lv_has ls 5 [(0, .ref a_this), (1, .int x1), (2, .int x2), (3, .int y47_3)]) (h : K47 y47_3 = some o), W p l e rm_mm_hashOf s m args below meth c s.heap [] 0 0 Q (F0 m 85 ls []) := by
      intro y47_3 ls hl h
      have h := mo_a1 eK47 h
      try dsimp only at h
      refine lv_iload_n (pc := 85) hx hb d_mm_hashOf_85 rfl (lv_at hl 3 rfl) ?_
      refine lv_aload_n (pc := 86) hx hb d_mm_hashOf_86 rfl (lv_at hl 0 rfl) ?_
      refine gf_mm_50 (pc := 87) hx hb hw hN hown hK hP 0 rfl rfl d_mm_hashOf_87 ?_
      refine lv_iload_n (pc := 90) hx hb d_mm_hashOf_90 rfl (lv_at hl 1 rfl) ?_
      obtain ⟨v91, hi91, e91, h⟩ := mo_rI_e h
      refine mo_iald (pc := 91) hx hb hK hP 7 0 rfl rfl hi91 e91 d_mm_hashOf_91 ?_
      obtain ⟨r92, hr92, h⟩ := mo_bd_e h
      refine mo_rS (pc := 92) (As := [.int y47_3, .int v91]) (rest := []) (st1 := [.int r92]) ⟨hx, hb, hml, hown, hw⟩ (c_mm_mix l D cI cL cZ y47_3 v91 r92 hr92) (kS_mm_101 hw ⟨by decide, by decide⟩) mo_P0 hK hN rfl hl.1 rfl rfl d_mm_hashOf_92 rfl ?_
      refine lv_iload_n (pc := 95) hx hb d_mm_hashOf_95 rfl (lv_at hl 2 rfl) ?_
      obtain ⟨r96, hr96, h⟩ := mo_bd_e h
      refine mo_rS (pc := 96) (As := [.int r92, .int x2]) (rest := []) (st1 := [.int r96]) ⟨hx, hb, hml, hown, hw⟩ (c_mm_mix l D cI cL cZ r92 x2 r96 hr96) (kS_mm_101 hw ⟨by decide, by decide⟩) mo_P0 hK hN rfl hl.1 rfl rfl d_mm_hashOf_96 rfl ?_
      refine lv_ldc (pc := 99) (v := 2147483647) hx hb hown (hw _ wd_3_123) d_mm_hashOf_99 ?_
      refine lv_iand (pc := 101) hx hb d_mm_hashOf_101 ?_
      exact mo_retIr hx hb hr hlocks hQ h d_mm_hashOf_102
    exact mo_lp_i (step := (m_mm_hashOf_L47 f_holds f_held f_id x1)) (o := w47) (fun (x : Int32 × Int32) => match x with | (z47_3, z47_4) => ∀ (ls : Array Slot) (hl : lv_has ls 5 [(0, .ref a_this), (1, .int x1), (2, .int x2), (3, .int z47_3), (4, .int z47_4)]), W p l e rm_mm_hashOf s m args below meth c s.heap [] 0 0 Q (F0 m 47 ls [])) (by
        rintro bk47 hb47 ⟨z47_3, z47_4⟩ h ls hl
        unfold m_mm_hashOf_L47 at h
        try dsimp only at h
        refine lv_iload (pc := 47) hx hb d_mm_hashOf_47 (lv_at hl 4 rfl) ?_
        refine lv_aload_n (pc := 49) hx hb d_mm_hashOf_49 rfl (lv_at hl 0 rfl) ?_
        refine gf_mm_44 (pc := 50) hx hb hw hN hown hK hP 0 rfl rfl d_mm_hashOf_50 ?_
        refine lv_iload_n (pc := 53) hx hb d_mm_hashOf_53 rfl (lv_at hl 1 rfl) ?_
        obtain ⟨v54, hi54, e54, h⟩ := mo_rI_e h
        refine mo_iald (pc := 54) hx hb hK hP 4 0 rfl rfl hi54 e54 d_mm_hashOf_54 ?_
        refine lv_icmp_ge (pc := 55) (tgt := 85) hx hb d_mm_hashOf_55 rfl (fun hc => ?_) (fun hc => ?_)
        · have h := mo_t hc h
          exact E47 z47_3 _ (lv_sub hl [0, 1, 2, 3] rfl) (by rw [Option.some.inj h]; exact hr47)
        · have h := mo_f hc h
          refine lv_iload_n (pc := 58) hx hb d_mm_hashOf_58 rfl (lv_at hl 3 rfl) ?_
          refine lv_aload_n (pc := 59) hx hb d_mm_hashOf_59 rfl (lv_at hl 0 rfl) ?_
          refine gf_mm_31 (pc := 60) hx hb hw hN hown hK hP 0 rfl rfl d_mm_hashOf_60 ?_
          refine lv_aload_n (pc := 63) hx hb d_mm_hashOf_63 rfl (lv_at hl 0 rfl) ?_
          refine gf_mm_47 (pc := 64) hx hb hw hN hown hK hP 0 rfl rfl d_mm_hashOf_64 ?_
          refine lv_iconst (pc := 67) (v := 3) hx hb d_mm_hashOf_67 (by decide) ?_
          refine lv_iload_n (pc := 68) hx hb d_mm_hashOf_68 rfl (lv_at hl 1 rfl) ?_
          refine lv_imul (pc := 69) hx hb d_mm_hashOf_69 ?_
          refine lv_iload (pc := 70) hx hb d_mm_hashOf_70 (lv_at hl 4 rfl) ?_
          refine lv_iadd (pc := 72) hx hb d_mm_hashOf_72 ?_
          obtain ⟨v73, hi73, e73, h⟩ := mo_rI_e h
          refine mo_iald (pc := 73) hx hb hK hP 5 0 rfl rfl hi73 e73 d_mm_hashOf_73 ?_
          obtain ⟨v74, hi74, e74, h⟩ := mo_rI_e h
          refine mo_iald (pc := 74) hx hb hK hP 6 0 rfl rfl hi74 e74 d_mm_hashOf_74 ?_
          obtain ⟨r75, hr75, h⟩ := mo_bd_e h
          refine mo_rS (pc := 75) (As := [.int z47_3, .int v74]) (rest := []) (st1 := [.int r75]) ⟨hx, hb, hml, hown, hw⟩ (c_mm_mix l D cI cL cZ z47_3 v74 r75 hr75) (kS_mm_101 hw ⟨by decide, by decide⟩) mo_P0 hK hN rfl hl.1 rfl rfl d_mm_hashOf_75 rfl ?_
          refine lv_istore_n (pc := 78) (lv' := [(3, .int r75), (0, .ref a_this), (1, .int x1), (2, .int x2), (4, .int z47_4)]) hx hb d_mm_hashOf_78 rfl hl (by decide) rfl (fun ls hl => ?_)
          refine lv_iinc (pc := 79) (k := 4) (v := z47_4 + 1) (lv' := [(4, .int (z47_4 + 1)), (3, .int r75), (0, .ref a_this), (1, .int x1), (2, .int x2)]) hx hb d_mm_hashOf_79 hl rfl (mo_inc1 _) (by decide) rfl (fun ls hl => ?_)
          refine lv_goto (pc := 82) (tgt := 47) hx hb d_mm_hashOf_82 rfl ?_
          exact hb47 (r75, z47_4 + 1) h _ (lv_sub hl [2, 3, 4, 1, 0] rfl)
      ) _ _ hy47 _ (lv_sub hl [1, 2, 3, 4, 0] rfl)
  exact mo_lp_i (step := (m_mm_hashOf_L6 f_parents f_parent f_hash x1)) (o := w6) (fun (x : Int32 × Int32) => match x with | (z6_3, z6_4) => ∀ (ls : Array Slot) (hl : lv_has ls 5 [(0, .ref a_this), (1, .int x1), (2, .int x2), (3, .int z6_3), (4, .int z6_4)]), W p l e rm_mm_hashOf s m args below meth c s.heap [] 0 0 Q (F0 m 6 ls [])) (by
      rintro bk6 hb6 ⟨z6_3, z6_4⟩ h ls hl
      unfold m_mm_hashOf_L6 at h
      try dsimp only at h
      refine lv_iload (pc := 6) hx hb d_mm_hashOf_6 (lv_at hl 4 rfl) ?_
      refine lv_aload_n (pc := 8) hx hb d_mm_hashOf_8 rfl (lv_at hl 0 rfl) ?_
      refine gf_mm_38 (pc := 9) hx hb hw hN hown hK hP 0 rfl rfl d_mm_hashOf_9 ?_
      refine lv_iload_n (pc := 12) hx hb d_mm_hashOf_12 rfl (lv_at hl 1 rfl) ?_
      obtain ⟨v13, hi13, e13, h⟩ := mo_rI_e h
      refine mo_iald (pc := 13) hx hb hK hP 1 0 rfl rfl hi13 e13 d_mm_hashOf_13 ?_
      refine lv_icmp_ge (pc := 14) (tgt := 44) hx hb d_mm_hashOf_14 rfl (fun hc => ?_) (fun hc => ?_)
      · have h := mo_t hc h
        exact E6 z6_3 _ (lv_sub hl [0, 1, 2, 3] rfl) (by rw [Option.some.inj h]; exact hr6)
      · have h := mo_f hc h
        refine lv_iload_n (pc := 17) hx hb d_mm_hashOf_17 rfl (lv_at hl 3 rfl) ?_
        refine lv_aload_n (pc := 18) hx hb d_mm_hashOf_18 rfl (lv_at hl 0 rfl) ?_
        refine gf_mm_53 (pc := 19) hx hb hw hN hown hK hP 0 rfl rfl d_mm_hashOf_19 ?_
        refine lv_aload_n (pc := 22) hx hb d_mm_hashOf_22 rfl (lv_at hl 0 rfl) ?_
        refine gf_mm_41 (pc := 23) hx hb hw hN hown hK hP 0 rfl rfl d_mm_hashOf_23 ?_
        refine lv_iconst (pc := 26) (v := 4) hx hb d_mm_hashOf_26 (by decide) ?_
        refine lv_iload_n (pc := 27) hx hb d_mm_hashOf_27 rfl (lv_at hl 1 rfl) ?_
        refine lv_imul (pc := 28) hx hb d_mm_hashOf_28 ?_
        refine lv_iload (pc := 29) hx hb d_mm_hashOf_29 (lv_at hl 4 rfl) ?_
        refine lv_iadd (pc := 31) hx hb d_mm_hashOf_31 ?_
        obtain ⟨v32, hi32, e32, h⟩ := mo_rI_e h
        refine mo_iald (pc := 32) hx hb hK hP 2 0 rfl rfl hi32 e32 d_mm_hashOf_32 ?_
        obtain ⟨v33, hi33, e33, h⟩ := mo_rI_e h
        refine mo_iald (pc := 33) hx hb hK hP 3 0 rfl rfl hi33 e33 d_mm_hashOf_33 ?_
        obtain ⟨r34, hr34, h⟩ := mo_bd_e h
        refine mo_rS (pc := 34) (As := [.int z6_3, .int v33]) (rest := []) (st1 := [.int r34]) ⟨hx, hb, hml, hown, hw⟩ (c_mm_mix l D cI cL cZ z6_3 v33 r34 hr34) (kS_mm_101 hw ⟨by decide, by decide⟩) mo_P0 hK hN rfl hl.1 rfl rfl d_mm_hashOf_34 rfl ?_
        refine lv_istore_n (pc := 37) (lv' := [(3, .int r34), (0, .ref a_this), (1, .int x1), (2, .int x2), (4, .int z6_4)]) hx hb d_mm_hashOf_37 rfl hl (by decide) rfl (fun ls hl => ?_)
        refine lv_iinc (pc := 38) (k := 4) (v := z6_4 + 1) (lv' := [(4, .int (z6_4 + 1)), (3, .int r34), (0, .ref a_this), (1, .int x1), (2, .int x2)]) hx hb d_mm_hashOf_38 hl rfl (mo_inc1 _) (by decide) rfl (fun ls hl => ?_)
        refine lv_goto (pc := 41) (tgt := 6) hx hb d_mm_hashOf_41 rfl ?_
        exact hb6 (r34, z6_4 + 1) h _ (lv_sub hl [2, 3, 4, 1, 0] rfl)
    ) _ _ hy6 _ (lv_sub hl [2, 3, 4, 1, 0] rfl)
set_option maxRecDepth 100000 in
set_option maxHeartbeats 4000000 in
theorem c_mm_build (l : Launch) (D : va_G) (cI cL cZ : ClassId) (a_this : Nat) (a_parents : Nat) (a_holds : Nat) (a_parent : Nat) (a_held : Nat) (a_blockLock : Nat) (a_hash : Nat) (a_id : Nat) (a_inputs : Nat) (a_outputs : Nat) (a_source : Nat) (a_index : Nat) (a_secret : Nat) (a_lock : Nat) (a_amount : Nat) (a_past : Nat) (a_blues : Nat) (a_score : Nat) (a_selected : Nat) (a_orphan : Nat) (a_pool : Nat) (a_order : Nat) (a_merged : Nat) (a_accepted : Nat) (a_free : Nat) (a_coin : Nat) (a_worth : Nat) (v_limit : Int32) (v_made : Int32) (v_blocks : Int32) (v_dag : Int64) (v_orphans : Int32) (v_pooled : Int32) (v_places : Int32) (f_parents : Nat → Int32) (f_holds : Nat → Int32) (f_parent : Nat → Int32) (f_held : Nat → Int32) (f_blockLock : Nat → Int32) (f_hash : Nat → Int32) (f_id : Nat → Int32) (x1 : Int32) (x2 : Int32) (x3 : Int32) (o : Int32 × Int32 × (Nat → Int32) × (Nat → Int32) × (Nat → Int32) × (Nat → Int32) × (Nat → Int32) × (Nat → Int32)) (h : m_mm_build v_blocks f_parents f_holds f_parent f_held f_blockLock f_hash f_id x1 x2 x3 = some o) : Met l y_mm_build (Cond.code y_mm_build b_mm_build 6 (some .int) :: WG) rm_mm_build (va_Pc [.ref a_this, .int x1, .int x2, .int x3] (mo_Pm D [(cI, .int), (cL, .long), (cZ, .boolean)] [(a_this, .inr (7, [.int v_limit, .int v_made, .ref a_inputs, .ref a_outputs, .ref a_source, .ref a_index, .ref a_secret, .ref a_lock, .ref a_amount, .ref a_id, .int v_blocks, .ref a_parents, .ref a_parent, .ref a_holds, .ref a_held, .ref a_blockLock, .ref a_hash, .long v_dag, .ref a_past, .ref a_blues, .ref a_score, .ref a_selected, .int v_orphans, .ref a_orphan, .int v_pooled, .ref a_pool, .int v_places, .ref a_order, .ref a_merged, .ref a_accepted, .ref a_free, .ref a_coin, .ref a_worth])), (a_parents, .inl (cI, 62, .inl f_parents)), (a_holds, .inl (cI, 62, .inl f_holds)), (a_parent, .inl (cI, 248, .inl f_parent)), (a_held, .inl (cI, 186, .inl f_held)), (a_blockLock, .inl (cI, 62, .inl f_blockLock)), (a_hash, .inl (cI, 62, .inl f_hash)), (a_id, .inl (cI, 41, .inl f_id))])) (mo_Qm D [(a_this, .inr (7, [.int v_limit, .int v_made, .ref a_inputs, .ref a_outputs, .ref a_source, .ref a_index, .ref a_secret, .ref a_lock, .ref a_amount, .ref a_id, .int v_blocks, .ref a_parents, .ref a_parent, .ref a_holds, .ref a_held, .ref a_blockLock, .ref a_hash, .long v_dag, .ref a_past, .ref a_blues, .ref a_score, .ref a_selected, .int v_orphans, .ref a_orphan, .int v_pooled, .ref a_pool, .int v_places, .ref a_order, .ref a_merged, .ref a_accepted, .ref a_free, .ref a_coin, .ref a_worth])), (a_parents, .inl (cI, 62, .inl f_parents)), (a_holds, .inl (cI, 62, .inl f_holds)), (a_parent, .inl (cI, 248, .inl f_parent)), (a_held, .inl (cI, 186, .inl f_held)), (a_blockLock, .inl (cI, 62, .inl f_blockLock)), (a_hash, .inl (cI, 62, .inl f_hash)), (a_id, .inl (cI, 41, .inl f_id))] (fun (o : Int32 × Int32 × (Nat → Int32) × (Nat → Int32) × (Nat → Int32) × (Nat → Int32) × (Nat → Int32) × (Nat → Int32)) => [(a_this, .inr (7, [.int v_limit, .int v_made, .ref a_inputs, .ref a_outputs, .ref a_source, .ref a_index, .ref a_secret, .ref a_lock, .ref a_amount, .ref a_id, .int o.2.1, .ref a_parents, .ref a_parent, .ref a_holds, .ref a_held, .ref a_blockLock, .ref a_hash, .long v_dag, .ref a_past, .ref a_blues, .ref a_score, .ref a_selected, .int v_orphans, .ref a_orphan, .int v_pooled, .ref a_pool, .int v_places, .ref a_order, .ref a_merged, .ref a_accepted, .ref a_free, .ref a_coin, .ref a_worth])), (a_parents, .inl (cI, 62, .inl o.2.2.1)), (a_holds, .inl (cI, 62, .inl o.2.2.2.1)), (a_parent, .inl (cI, 248, .inl o.2.2.2.2.1)), (a_held, .inl (cI, 186, .inl o.2.2.2.2.2.1)), (a_blockLock, .inl (cI, 62, .inl o.2.2.2.2.2.2.1)), (a_hash, .inl (cI, 62, .inl o.2.2.2.2.2.2.2)), (a_id, .inl (cI, 41, .inl f_id))]) (fun (o : Int32 × Int32 × (Nat → Int32) × (Nat → Int32) × (Nat → Int32) × (Nat → Int32) × (Nat → Int32) × (Nat → Int32)) => (some (.int o.1))) o) 0 0 (mo_A [(a_this, .inr (7, [.int v_limit, .int v_made, .ref a_inputs, .ref a_outputs, .ref a_source, .ref a_index, .ref a_secret, .ref a_lock, .ref a_amount, .ref a_id, .int v_blocks, .ref a_parents, .ref a_parent, .ref a_holds, .ref a_held, .ref a_blockLock, .ref a_hash, .long v_dag, .ref a_past, .ref a_blues, .ref a_score, .ref a_selected, .int v_orphans, .ref a_orphan, .int v_pooled, .ref a_pool, .int v_places, .ref a_order, .ref a_merged, .ref a_accepted, .ref a_free, .ref a_coin, .ref a_worth])), (a_parents, .inl (cI, 62, .inl f_parents)), (a_holds, .inl (cI, 62, .inl f_holds)), (a_parent, .inl (cI, 248, .inl f_parent)), (a_held, .inl (cI, 186, .inl f_held)), (a_blockLock, .inl (cI, 62, .inl f_blockLock)), (a_hash, .inl (cI, 62, .inl f_hash)), (a_id, .inl (cI, 41, .inl f_id))]) := by
  refine mo_start (by decide) (Nat.le_of_ble_eq_true rfl) ?_
  intro p e s m args below meth c hx hb hr hlocks hml hown hw hv ls hl Q hQ
  obtain ⟨hP, hK, hN, hD0⟩ := hv
  have hl : lv_has ls 6 [(0, .ref a_this), (1, .int x1), (2, .int x2), (3, .int x3)] := hl
  obtain ⟨A, hA2⟩ : ∃ A, A = mo_A [(a_this, .inr (7, [.int v_limit, .int v_made, .ref a_inputs, .ref a_outputs, .ref a_source, .ref a_index, .ref a_secret, .ref a_lock, .ref a_amount, .ref a_id, .int v_blocks, .ref a_parents, .ref a_parent, .ref a_holds, .ref a_held, .ref a_blockLock, .ref a_hash, .long v_dag, .ref a_past, .ref a_blues, .ref a_score, .ref a_selected, .int v_orphans, .ref a_orphan, .int v_pooled, .ref a_pool, .int v_places, .ref a_order, .ref a_merged, .ref a_accepted, .ref a_free, .ref a_coin, .ref a_worth])), (a_parents, .inl (cI, 62, .inl f_parents)), (a_holds, .inl (cI, 62, .inl f_holds)), (a_parent, .inl (cI, 248, .inl f_parent)), (a_held, .inl (cI, 186, .inl f_held)), (a_blockLock, .inl (cI, 62, .inl f_blockLock)), (a_hash, .inl (cI, 62, .inl f_hash)), (a_id, .inl (cI, 41, .inl f_id))] := ⟨_, rfl⟩
  have hD : va_D A [(a_this, .inr (7, [.int v_limit, .int v_made, .ref a_inputs, .ref a_outputs, .ref a_source, .ref a_index, .ref a_secret, .ref a_lock, .ref a_amount, .ref a_id, .int v_blocks, .ref a_parents, .ref a_parent, .ref a_holds, .ref a_held, .ref a_blockLock, .ref a_hash, .long v_dag, .ref a_past, .ref a_blues, .ref a_score, .ref a_selected, .int v_orphans, .ref a_orphan, .int v_pooled, .ref a_pool, .int v_places, .ref a_order, .ref a_merged, .ref a_accepted, .ref a_free, .ref a_coin, .ref a_worth])), (a_parents, .inl (cI, 62, .inl f_parents)), (a_holds, .inl (cI, 62, .inl f_holds)), (a_parent, .inl (cI, 248, .inl f_parent)), (a_held, .inl (cI, 186, .inl f_held)), (a_blockLock, .inl (cI, 62, .inl f_blockLock)), (a_hash, .inl (cI, 62, .inl f_hash)), (a_id, .inl (cI, 41, .inl f_id))] := hA2 ▸ mo_self hD0
  have hS : va_S A s.heap s.heap [] := va_S.rf
  unfold m_mm_build at h
  refine lv_aload_n (pc := 0) hx hb d_mm_build_0 rfl (lv_at hl 0 rfl) ?_
  refine gf_mm_34 (pc := 1) hx hb hw hN hown hK hP 0 rfl rfl d_mm_build_1 ?_
  refine lv_istore (pc := 4) (lv' := [(4, .int v_blocks), (0, .ref a_this), (1, .int x1), (2, .int x2), (3, .int x3)]) hx hb d_mm_build_4 hl (by decide) rfl (fun ls hl => ?_)
  refine lv_aload_n (pc := 6) hx hb d_mm_build_6 rfl (lv_at hl 1 rfl) ?_
  refine lv_dup (pc := 7) hx hb d_mm_build_7 rfl ?_
  refine gf_mm_34 (pc := 8) hx hb hw hN hown hK hP 0 rfl rfl d_mm_build_8 ?_
  refine lv_iconst (pc := 11) (v := 1) hx hb d_mm_build_11 (by decide) ?_
  refine lv_iadd (pc := 12) hx hb d_mm_build_12 ?_
  refine pf_mm_34 (pc := 13) hx hb hw hN hown hK hP hD hS 0 rfl (Nat.le_of_ble_eq_true rfl) d_mm_build_13 (fun H locs hP hD hS => ?_)
  have hP : va_P D cl [(a_this, .inr (7, [.int v_limit, .int v_made, .ref a_inputs, .ref a_outputs, .ref a_source, .ref a_index, .ref a_secret, .ref a_lock, .ref a_amount, .ref a_id, .int (v_blocks + 1), .ref a_parents, .ref a_parent, .ref a_holds, .ref a_held, .ref a_blockLock, .ref a_hash, .long v_dag, .ref a_past, .ref a_blues, .ref a_score, .ref a_selected, .int v_orphans, .ref a_orphan, .int v_pooled, .ref a_pool, .int v_places, .ref a_order, .ref a_merged, .ref a_accepted, .ref a_free, .ref a_coin, .ref a_worth])), (a_parents, .inl (cI, 62, .inl f_parents)), (a_holds, .inl (cI, 62, .inl f_holds)), (a_parent, .inl (cI, 248, .inl f_parent)), (a_held, .inl (cI, 186, .inl f_held)), (a_blockLock, .inl (cI, 62, .inl f_blockLock)), (a_hash, .inl (cI, 62, .inl f_hash)), (a_id, .inl (cI, 41, .inl f_id))] H := hP
  have hD : va_D A [(a_this, .inr (7, [.int v_limit, .int v_made, .ref a_inputs, .ref a_outputs, .ref a_source, .ref a_index, .ref a_secret, .ref a_lock, .ref a_amount, .ref a_id, .int (v_blocks + 1), .ref a_parents, .ref a_parent, .ref a_holds, .ref a_held, .ref a_blockLock, .ref a_hash, .long v_dag, .ref a_past, .ref a_blues, .ref a_score, .ref a_selected, .int v_orphans, .ref a_orphan, .int v_pooled, .ref a_pool, .int v_places, .ref a_order, .ref a_merged, .ref a_accepted, .ref a_free, .ref a_coin, .ref a_worth])), (a_parents, .inl (cI, 62, .inl f_parents)), (a_holds, .inl (cI, 62, .inl f_holds)), (a_parent, .inl (cI, 248, .inl f_parent)), (a_held, .inl (cI, 186, .inl f_held)), (a_blockLock, .inl (cI, 62, .inl f_blockLock)), (a_hash, .inl (cI, 62, .inl f_hash)), (a_id, .inl (cI, 41, .inl f_id))] := hD
  refine lv_aload_n (pc := 16) hx hb d_mm_build_16 rfl (lv_at hl 1 rfl) ?_
  refine gf_mm_38 (pc := 17) hx hb hw hN hown hK hP 0 rfl rfl d_mm_build_17 ?_
  refine lv_iload (pc := 20) hx hb d_mm_build_20 (lv_at hl 0 rfl) ?_
  refine lv_aload_n (pc := 22) hx hb d_mm_build_22 rfl (lv_at hl 1 rfl) ?_
  refine gf_mm_38 (pc := 23) hx hb hw hN hown hK hP 0 rfl rfl d_mm_build_23 ?_
  refine lv_iload_n (pc := 26) hx hb d_mm_build_26 rfl (lv_at hl 2 rfl) ?_
  obtain ⟨v27, hi27, e27, h⟩ := mo_rI_e h
  refine mo_iald (pc := 27) hx hb hK hP 1 0 rfl rfl hi27 e27 d_mm_build_27 ?_
  obtain ⟨g28, hi28, e28, h⟩ := mo_wI_e h
  refine mo_iast (pc := 28) hx hb hK hP hD hS 1 0 rfl rfl hi28 e28 d_mm_build_28 (fun H locs hP hD hS => ?_)
  have hP : va_P D cl [(a_this, .inr (7, [.int v_limit, .int v_made, .ref a_inputs, .ref a_outputs, .ref a_source, .ref a_index, .ref a_secret, .ref a_lock, .ref a_amount, .ref a_id, .int (v_blocks + 1), .ref a_parents, .ref a_parent, .ref a_holds, .ref a_held, .ref a_blockLock, .ref a_hash, .long v_dag, .ref a_past, .ref a_blues, .ref a_score, .ref a_selected, .int v_orphans, .ref a_orphan, .int v_pooled, .ref a_pool, .int v_places, .ref a_order, .ref a_merged, .ref a_accepted, .ref a_free, .ref a_coin, .ref a_worth])), (a_parents, .inl (cI, 62, .inl g28)), (a_holds, .inl (cI, 62, .inl f_holds)), (a_parent, .inl (cI, 248, .inl f_parent)), (a_held, .inl (cI, 186, .inl f_held)), (a_blockLock, .inl (cI, 62, .inl f_blockLock)), (a_hash, .inl (cI, 62, .inl f_hash)), (a_id, .inl (cI, 41, .inl f_id))] H := hP
  have hD : va_D A [(a_this, .inr (7, [.int v_limit, .int v_made, .ref a_inputs, .ref a_outputs, .ref a_source, .ref a_index, .ref a_secret, .ref a_lock, .ref a_amount, .ref a_id, .int (v_blocks + 1), .ref a_parents, .ref a_parent, .ref a_holds, .ref a_held, .ref a_blockLock, .ref a_hash, .long v_dag, .ref a_past, .ref a_blues, .ref a_score, .ref a_selected, .int v_orphans, .ref a_orphan, .int v_pooled, .ref a_pool, .int v_places, .ref a_order, .ref a_merged, .ref a_accepted, .ref a_free, .ref a_coin, .ref a_worth])), (a_parents, .inl (cI, 62, .inl g28)), (a_holds, .inl (cI, 62, .inl f_holds)), (a_parent, .inl (cI, 248, .inl f_parent)), (a_held, .inl (cI, 186, .inl f_held)), (a_blockLock, .inl (cI, 62, .inl f_blockLock)), (a_hash, .inl (cI, 62, .inl f_hash)), (a_id, .inl (cI, 41, .inl f_id))] := hD
  refine lv_aload_n (pc := 29) hx hb d_mm_build_29 rfl (lv_at hl 1 rfl) ?_
  refine gf_mm_44 (pc := 30) hx hb hw hN hown hK hP 0 rfl rfl d_mm_build_30 ?_
  refine lv_iload (pc := 33) hx hb d_mm_build_33 (lv_at hl 0 rfl) ?_
  refine lv_aload_n (pc := 35) hx hb d_mm_build_35 rfl (lv_at hl 1 rfl) ?_
  refine gf_mm_44 (pc := 36) hx hb hw hN hown hK hP 0 rfl rfl d_mm_build_36 ?_
  refine lv_iload_n (pc := 39) hx hb d_mm_build_39 rfl (lv_at hl 2 rfl) ?_
  obtain ⟨v40, hi40, e40, h⟩ := mo_rI_e h
  refine mo_iald (pc := 40) hx hb hK hP 2 0 rfl rfl hi40 e40 d_mm_build_40 ?_
  obtain ⟨g41, hi41, e41, h⟩ := mo_wI_e h
  refine mo_iast (pc := 41) hx hb hK hP hD hS 2 0 rfl rfl hi41 e41 d_mm_build_41 (fun H locs hP hD hS => ?_)
  have hP : va_P D cl [(a_this, .inr (7, [.int v_limit, .int v_made, .ref a_inputs, .ref a_outputs, .ref a_source, .ref a_index, .ref a_secret, .ref a_lock, .ref a_amount, .ref a_id, .int (v_blocks + 1), .ref a_parents, .ref a_parent, .ref a_holds, .ref a_held, .ref a_blockLock, .ref a_hash, .long v_dag, .ref a_past, .ref a_blues, .ref a_score, .ref a_selected, .int v_orphans, .ref a_orphan, .int v_pooled, .ref a_pool, .int v_places, .ref a_order, .ref a_merged, .ref a_accepted, .ref a_free, .ref a_coin, .ref a_worth])), (a_parents, .inl (cI, 62, .inl g28)), (a_holds, .inl (cI, 62, .inl g41)), (a_parent, .inl (cI, 248, .inl f_parent)), (a_held, .inl (cI, 186, .inl f_held)), (a_blockLock, .inl (cI, 62, .inl f_blockLock)), (a_hash, .inl (cI, 62, .inl f_hash)), (a_id, .inl (cI, 41, .inl f_id))] H := hP
  have hD : va_D A [(a_this, .inr (7, [.int v_limit, .int v_made, .ref a_inputs, .ref a_outputs, .ref a_source, .ref a_index, .ref a_secret, .ref a_lock, .ref a_amount, .ref a_id, .int (v_blocks + 1), .ref a_parents, .ref a_parent, .ref a_holds, .ref a_held, .ref a_blockLock, .ref a_hash, .long v_dag, .ref a_past, .ref a_blues, .ref a_score, .ref a_selected, .int v_orphans, .ref a_orphan, .int v_pooled, .ref a_pool, .int v_places, .ref a_order, .ref a_merged, .ref a_accepted, .ref a_free, .ref a_coin, .ref a_worth])), (a_parents, .inl (cI, 62, .inl g28)), (a_holds, .inl (cI, 62, .inl g41)), (a_parent, .inl (cI, 248, .inl f_parent)), (a_held, .inl (cI, 186, .inl f_held)), (a_blockLock, .inl (cI, 62, .inl f_blockLock)), (a_hash, .inl (cI, 62, .inl f_hash)), (a_id, .inl (cI, 41, .inl f_id))] := hD
  refine lv_iconst (pc := 42) (v := 0) hx hb d_mm_build_42 (by decide) ?_
  refine lv_istore (pc := 43) (lv' := [(5, .int 0), (4, .int v_blocks), (0, .ref a_this), (1, .int x1), (2, .int x2), (3, .int x3)]) hx hb d_mm_build_43 hl (by decide) rfl (fun ls hl => ?_)
  obtain ⟨w45, K45, eK45, hy45, hr45⟩ := mo_bd_k h
  have E45 : ∀ (y45_f_parent : Nat → Int32) (ls : Array Slot) (H : Heap) (locs : List Loc) (hP : va_P D cl [(a_this, .inr (7, [.int v_limit, .int v_made, .ref a_inputs, .ref a_outputs, .ref a_source, .ref a_index, .ref a_secret, .ref a_lock, .ref a_amount, .ref a_id, .int (v_blocks + 1), .ref a_parents, .ref a_parent, .ref a_holds, .ref a_held, .ref a_blockLock, .ref a_hash, .long v_dag, .ref a_past, .ref a_blues, .ref a_score, .ref a_selected, .int v_orphans, .ref a_orphan, .int v_pooled, .ref a_pool, .int v_places, .ref a_order, .ref a_merged, .ref a_accepted, .ref a_free, .ref a_coin, .ref a_worth])), (a_parents, .inl (cI, 62, .inl g28)), (a_holds, .inl (cI, 62, .inl g41)), (a_parent, .inl (cI, 248, .inl y45_f_parent)), (a_held, .inl (cI, 186, .inl f_held)), (a_blockLock, .inl (cI, 62, .inl f_blockLock)), (a_hash, .inl (cI, 62, .inl f_hash)), (a_id, .inl (cI, 41, .inl f_id))] H) (hD : va_D A [(a_this, .inr (7, [.int v_limit, .int v_made, .ref a_inputs, .ref a_outputs, .ref a_source, .ref a_index, .ref a_secret, .ref a_lock, .ref a_amount, .ref a_id, .int (v_blocks + 1), .ref a_parents, .ref a_parent, .ref a_holds, .ref a_held, .ref a_blockLock, .ref a_hash, .long v_dag, .ref a_past, .ref a_blues, .ref a_score, .ref a_selected, .int v_orphans, .ref a_orphan, .int v_pooled, .ref a_pool, .int v_places, .ref a_order, .ref a_merged, .ref a_accepted, .ref a_free, .ref a_coin, .ref a_worth])), (a_parents, .inl (cI, 62, .inl g28)), (a_holds, .inl (cI, 62, .inl g41)), (a_parent, .inl (cI, 248, .inl y45_f_parent)), (a_held, .inl (cI, 186, .inl f_held)), (a_blockLock, .inl (cI, 62, .inl f_blockLock)), (a_hash, .inl (cI, 62, .inl f_hash)), (a_id, .inl (cI, 41, .inl f_id))]) (hS : va_S A s.heap H locs) (hl : lv_has ls 6 [(0, .ref a_this), (1, .int x1), (2, .int x2), (3, .int x3), (4, .int v_blocks)]) (h : K45 y45_f_parent = some o), W p l e rm_mm_build s m args below meth c H locs 0 0 Q (F0 m 80 ls []) := by
    intro y45_f_parent ls H locs hP hD hS hl h
    have h := mo_a1 eK45 h
    try dsimp only at h
    refine lv_iconst (pc := 80) (v := 0) hx hb d_mm_build_80 (by decide) ?_
    refine lv_istore (pc := 81) (lv' := [(5, .int 0), (0, .ref a_this), (1, .int x1), (2, .int x2), (3, .int x3), (4, .int v_blocks)]) hx hb d_mm_build_81 hl (by decide) rfl (fun ls hl => ?_)
    obtain ⟨w83, K83, eK83, hy83, hr83⟩ := mo_bd_k h
    have E83 : ∀ (y83_f_held : Nat → Int32) (ls : Array Slot) (H : Heap) (locs : List Loc) (hP : va_P D cl [(a_this, .inr (7, [.int v_limit, .int v_made, .ref a_inputs, .ref a_outputs, .ref a_source, .ref a_index, .ref a_secret, .ref a_lock, .ref a_amount, .ref a_id, .int (v_blocks + 1), .ref a_parents, .ref a_parent, .ref a_holds, .ref a_held, .ref a_blockLock, .ref a_hash, .long v_dag, .ref a_past, .ref a_blues, .ref a_score, .ref a_selected, .int v_orphans, .ref a_orphan, .int v_pooled, .ref a_pool, .int v_places, .ref a_order, .ref a_merged, .ref a_accepted, .ref a_free, .ref a_coin, .ref a_worth])), (a_parents, .inl (cI, 62, .inl g28)), (a_holds, .inl (cI, 62, .inl g41)), (a_parent, .inl (cI, 248, .inl y45_f_parent)), (a_held, .inl (cI, 186, .inl y83_f_held)), (a_blockLock, .inl (cI, 62, .inl f_blockLock)), (a_hash, .inl (cI, 62, .inl f_hash)), (a_id, .inl (cI, 41, .inl f_id))] H) (hD : va_D A [(a_this, .inr (7, [.int v_limit, .int v_made, .ref a_inputs, .ref a_outputs, .ref a_source, .ref a_index, .ref a_secret, .ref a_lock, .ref a_amount, .ref a_id, .int (v_blocks + 1), .ref a_parents, .ref a_parent, .ref a_holds, .ref a_held, .ref a_blockLock, .ref a_hash, .long v_dag, .ref a_past, .ref a_blues, .ref a_score, .ref a_selected, .int v_orphans, .ref a_orphan, .int v_pooled, .ref a_pool, .int v_places, .ref a_order, .ref a_merged, .ref a_accepted, .ref a_free, .ref a_coin, .ref a_worth])), (a_parents, .inl (cI, 62, .inl g28)), (a_holds, .inl (cI, 62, .inl g41)), (a_parent, .inl (cI, 248, .inl y45_f_parent)), (a_held, .inl (cI, 186, .inl y83_f_held)), (a_blockLock, .inl (cI, 62, .inl f_blockLock)), (a_hash, .inl (cI, 62, .inl f_hash)), (a_id, .inl (cI, 41, .inl f_id))]) (hS : va_S A s.heap H locs) (hl : lv_has ls 6 [(0, .ref a_this), (2, .int x2), (3, .int x3), (4, .int v_blocks)]) (h : K83 y83_f_held = some o), W p l e rm_mm_build s m args below meth c H locs 0 0 Q (F0 m 118 ls []) := by
      intro y83_f_held ls H locs hP hD hS hl h
      have h := mo_a1 eK83 h
      try dsimp only at h
      refine lv_aload_n (pc := 118) hx hb d_mm_build_118 rfl (lv_at hl 0 rfl) ?_
      refine gf_mm_50 (pc := 119) hx hb hw hN hown hK hP 0 rfl rfl d_mm_build_119 ?_
      refine lv_iload (pc := 122) hx hb d_mm_build_122 (lv_at hl 3 rfl) ?_
      refine lv_bipush (pc := 124) (v := 7) hx hb d_mm_build_124 (by decide) ?_
      refine lv_iload_n (pc := 126) hx hb d_mm_build_126 rfl (lv_at hl 1 rfl) ?_
      obtain ⟨r127, hr127, h⟩ := mo_bd_e h
      refine mo_rS (pc := 127) (As := [.int 7, .int x2]) (rest := [.int v_blocks, .ref a_blockLock]) (st1 := [.int r127, .int v_blocks, .ref a_blockLock]) ⟨hx, hb, hml, hown, hw⟩ (c_mm_mix l D cI cL cZ 7 x2 r127 hr127) (kS_mm_101 hw ⟨by decide, by decide⟩) mo_P0 hK hN rfl hl.1 rfl rfl d_mm_build_127 rfl ?_
      obtain ⟨g130, hi130, e130, h⟩ := mo_wI_e h
      refine mo_iast (pc := 130) hx hb hK hP hD hS 5 0 rfl rfl hi130 e130 d_mm_build_130 (fun H locs hP hD hS => ?_)
      have hP : va_P D cl [(a_this, .inr (7, [.int v_limit, .int v_made, .ref a_inputs, .ref a_outputs, .ref a_source, .ref a_index, .ref a_secret, .ref a_lock, .ref a_amount, .ref a_id, .int (v_blocks + 1), .ref a_parents, .ref a_parent, .ref a_holds, .ref a_held, .ref a_blockLock, .ref a_hash, .long v_dag, .ref a_past, .ref a_blues, .ref a_score, .ref a_selected, .int v_orphans, .ref a_orphan, .int v_pooled, .ref a_pool, .int v_places, .ref a_order, .ref a_merged, .ref a_accepted, .ref a_free, .ref a_coin, .ref a_worth])), (a_parents, .inl (cI, 62, .inl g28)), (a_holds, .inl (cI, 62, .inl g41)), (a_parent, .inl (cI, 248, .inl y45_f_parent)), (a_held, .inl (cI, 186, .inl y83_f_held)), (a_blockLock, .inl (cI, 62, .inl g130)), (a_hash, .inl (cI, 62, .inl f_hash)), (a_id, .inl (cI, 41, .inl f_id))] H := hP
      have hD : va_D A [(a_this, .inr (7, [.int v_limit, .int v_made, .ref a_inputs, .ref a_outputs, .ref a_source, .ref a_index, .ref a_secret, .ref a_lock, .ref a_amount, .ref a_id, .int (v_blocks + 1), .ref a_parents, .ref a_parent, .ref a_holds, .ref a_held, .ref a_blockLock, .ref a_hash, .long v_dag, .ref a_past, .ref a_blues, .ref a_score, .ref a_selected, .int v_orphans, .ref a_orphan, .int v_pooled, .ref a_pool, .int v_places, .ref a_order, .ref a_merged, .ref a_accepted, .ref a_free, .ref a_coin, .ref a_worth])), (a_parents, .inl (cI, 62, .inl g28)), (a_holds, .inl (cI, 62, .inl g41)), (a_parent, .inl (cI, 248, .inl y45_f_parent)), (a_held, .inl (cI, 186, .inl y83_f_held)), (a_blockLock, .inl (cI, 62, .inl g130)), (a_hash, .inl (cI, 62, .inl f_hash)), (a_id, .inl (cI, 41, .inl f_id))] := hD
      refine lv_iconst (pc := 131) (v := 0) hx hb d_mm_build_131 (by decide) ?_
      refine lv_istore (pc := 132) (lv' := [(5, .int 0), (0, .ref a_this), (2, .int x2), (3, .int x3), (4, .int v_blocks)]) hx hb d_mm_build_132 hl (by decide) rfl (fun ls hl => ?_)
      obtain ⟨w134, K134, eK134, hy134, hr134⟩ := mo_bd_k h
      have E134 : ∀ (y134_5 : Int32) (ls : Array Slot) (H : Heap) (locs : List Loc) (hP : va_P D cl [(a_this, .inr (7, [.int v_limit, .int v_made, .ref a_inputs, .ref a_outputs, .ref a_source, .ref a_index, .ref a_secret, .ref a_lock, .ref a_amount, .ref a_id, .int (v_blocks + 1), .ref a_parents, .ref a_parent, .ref a_holds, .ref a_held, .ref a_blockLock, .ref a_hash, .long v_dag, .ref a_past, .ref a_blues, .ref a_score, .ref a_selected, .int v_orphans, .ref a_orphan, .int v_pooled, .ref a_pool, .int v_places, .ref a_order, .ref a_merged, .ref a_accepted, .ref a_free, .ref a_coin, .ref a_worth])), (a_parents, .inl (cI, 62, .inl g28)), (a_holds, .inl (cI, 62, .inl g41)), (a_parent, .inl (cI, 248, .inl y45_f_parent)), (a_held, .inl (cI, 186, .inl y83_f_held)), (a_blockLock, .inl (cI, 62, .inl g130)), (a_hash, .inl (cI, 62, .inl f_hash)), (a_id, .inl (cI, 41, .inl f_id))] H) (hD : va_D A [(a_this, .inr (7, [.int v_limit, .int v_made, .ref a_inputs, .ref a_outputs, .ref a_source, .ref a_index, .ref a_secret, .ref a_lock, .ref a_amount, .ref a_id, .int (v_blocks + 1), .ref a_parents, .ref a_parent, .ref a_holds, .ref a_held, .ref a_blockLock, .ref a_hash, .long v_dag, .ref a_past, .ref a_blues, .ref a_score, .ref a_selected, .int v_orphans, .ref a_orphan, .int v_pooled, .ref a_pool, .int v_places, .ref a_order, .ref a_merged, .ref a_accepted, .ref a_free, .ref a_coin, .ref a_worth])), (a_parents, .inl (cI, 62, .inl g28)), (a_holds, .inl (cI, 62, .inl g41)), (a_parent, .inl (cI, 248, .inl y45_f_parent)), (a_held, .inl (cI, 186, .inl y83_f_held)), (a_blockLock, .inl (cI, 62, .inl g130)), (a_hash, .inl (cI, 62, .inl f_hash)), (a_id, .inl (cI, 41, .inl f_id))]) (hS : va_S A s.heap H locs) (hl : lv_has ls 6 [(0, .ref a_this), (3, .int x3), (4, .int v_blocks), (5, .int y134_5)]) (h : K134 y134_5 = some o), W p l e rm_mm_build s m args below meth c H locs 0 0 Q (F0 m 162 ls []) := by
        intro y134_5 ls H locs hP hD hS hl h
        have h := mo_a1 eK134 h
        try dsimp only at h
        refine lv_aload_n (pc := 162) hx hb d_mm_build_162 rfl (lv_at hl 0 rfl) ?_
        refine gf_mm_53 (pc := 163) hx hb hw hN hown hK hP 0 rfl rfl d_mm_build_163 ?_
        refine lv_iload (pc := 166) hx hb d_mm_build_166 (lv_at hl 2 rfl) ?_
        refine lv_aload_n (pc := 168) hx hb d_mm_build_168 rfl (lv_at hl 0 rfl) ?_
        refine lv_iload (pc := 169) hx hb d_mm_build_169 (lv_at hl 2 rfl) ?_
        refine lv_iload_n (pc := 171) hx hb d_mm_build_171 rfl (lv_at hl 1 rfl) ?_
        refine lv_iload (pc := 172) hx hb d_mm_build_172 (lv_at hl 3 rfl) ?_
        refine lv_iadd (pc := 174) hx hb d_mm_build_174 ?_
        obtain ⟨r175, hr175, h⟩ := mo_bd_e h
        refine mo_rV (pc := 175) (As := [.int v_blocks, .int (x3 + y134_5)]) (rest := [.int v_blocks, .ref a_hash]) (st1 := [.int r175, .int v_blocks, .ref a_hash]) ⟨hx, hb, hml, hown, hw⟩ (c_mm_hashOf l D cI cL cZ a_this a_parents a_parent a_hash a_holds a_held a_id a_blockLock a_inputs a_outputs a_source a_index a_secret a_lock a_amount a_past a_blues a_score a_selected a_orphan a_pool a_order a_merged a_accepted a_free a_coin a_worth v_limit v_made (v_blocks + 1) v_dag v_orphans v_pooled v_places g28 y45_f_parent f_hash g41 y83_f_held f_id g130 v_blocks (x3 + y134_5) r175 hr175) (kV_mm_117 hw ⟨by decide, by decide⟩) (hP.sub [0, 1, 3, 6, 2, 4, 7, 5] rfl) hK hN rfl rfl rfl hl.1 rfl rfl d_mm_build_175 rfl ?_
        obtain ⟨g178, hi178, e178, h⟩ := mo_wI_e h
        refine mo_iast (pc := 178) hx hb hK hP hD hS 6 0 rfl rfl hi178 e178 d_mm_build_178 (fun H locs hP hD hS => ?_)
        have hP : va_P D cl [(a_this, .inr (7, [.int v_limit, .int v_made, .ref a_inputs, .ref a_outputs, .ref a_source, .ref a_index, .ref a_secret, .ref a_lock, .ref a_amount, .ref a_id, .int (v_blocks + 1), .ref a_parents, .ref a_parent, .ref a_holds, .ref a_held, .ref a_blockLock, .ref a_hash, .long v_dag, .ref a_past, .ref a_blues, .ref a_score, .ref a_selected, .int v_orphans, .ref a_orphan, .int v_pooled, .ref a_pool, .int v_places, .ref a_order, .ref a_merged, .ref a_accepted, .ref a_free, .ref a_coin, .ref a_worth])), (a_parents, .inl (cI, 62, .inl g28)), (a_holds, .inl (cI, 62, .inl g41)), (a_parent, .inl (cI, 248, .inl y45_f_parent)), (a_held, .inl (cI, 186, .inl y83_f_held)), (a_blockLock, .inl (cI, 62, .inl g130)), (a_hash, .inl (cI, 62, .inl g178)), (a_id, .inl (cI, 41, .inl f_id))] H := hP
        have hD : va_D A [(a_this, .inr (7, [.int v_limit, .int v_made, .ref a_inputs, .ref a_outputs, .ref a_source, .ref a_index, .ref a_secret, .ref a_lock, .ref a_amount, .ref a_id, .int (v_blocks + 1), .ref a_parents, .ref a_parent, .ref a_holds, .ref a_held, .ref a_blockLock, .ref a_hash, .long v_dag, .ref a_past, .ref a_blues, .ref a_score, .ref a_selected, .int v_orphans, .ref a_orphan, .int v_pooled, .ref a_pool, .int v_places, .ref a_order, .ref a_merged, .ref a_accepted, .ref a_free, .ref a_coin, .ref a_worth])), (a_parents, .inl (cI, 62, .inl g28)), (a_holds, .inl (cI, 62, .inl g41)), (a_parent, .inl (cI, 248, .inl y45_f_parent)), (a_held, .inl (cI, 186, .inl y83_f_held)), (a_blockLock, .inl (cI, 62, .inl g130)), (a_hash, .inl (cI, 62, .inl g178)), (a_id, .inl (cI, 41, .inl f_id))] := hD
        refine lv_iload (pc := 179) hx hb d_mm_build_179 (lv_at hl 2 rfl) ?_
        exact mo_retIm hx hb hr hlocks hQ hA2 h hP hS d_mm_build_181 rfl
      exact mo_lp_i (step := (m_mm_build_L134 v_blocks f_hash f_id x3 g28 g41 y45_f_parent y83_f_held g130)) (o := w134) (fun (z134_5 : Int32) => ∀ (ls : Array Slot) (H : Heap) (locs : List Loc) (hP : va_P D cl [(a_this, .inr (7, [.int v_limit, .int v_made, .ref a_inputs, .ref a_outputs, .ref a_source, .ref a_index, .ref a_secret, .ref a_lock, .ref a_amount, .ref a_id, .int (v_blocks + 1), .ref a_parents, .ref a_parent, .ref a_holds, .ref a_held, .ref a_blockLock, .ref a_hash, .long v_dag, .ref a_past, .ref a_blues, .ref a_score, .ref a_selected, .int v_orphans, .ref a_orphan, .int v_pooled, .ref a_pool, .int v_places, .ref a_order, .ref a_merged, .ref a_accepted, .ref a_free, .ref a_coin, .ref a_worth])), (a_parents, .inl (cI, 62, .inl g28)), (a_holds, .inl (cI, 62, .inl g41)), (a_parent, .inl (cI, 248, .inl y45_f_parent)), (a_held, .inl (cI, 186, .inl y83_f_held)), (a_blockLock, .inl (cI, 62, .inl g130)), (a_hash, .inl (cI, 62, .inl f_hash)), (a_id, .inl (cI, 41, .inl f_id))] H) (hD : va_D A [(a_this, .inr (7, [.int v_limit, .int v_made, .ref a_inputs, .ref a_outputs, .ref a_source, .ref a_index, .ref a_secret, .ref a_lock, .ref a_amount, .ref a_id, .int (v_blocks + 1), .ref a_parents, .ref a_parent, .ref a_holds, .ref a_held, .ref a_blockLock, .ref a_hash, .long v_dag, .ref a_past, .ref a_blues, .ref a_score, .ref a_selected, .int v_orphans, .ref a_orphan, .int v_pooled, .ref a_pool, .int v_places, .ref a_order, .ref a_merged, .ref a_accepted, .ref a_free, .ref a_coin, .ref a_worth])), (a_parents, .inl (cI, 62, .inl g28)), (a_holds, .inl (cI, 62, .inl g41)), (a_parent, .inl (cI, 248, .inl y45_f_parent)), (a_held, .inl (cI, 186, .inl y83_f_held)), (a_blockLock, .inl (cI, 62, .inl g130)), (a_hash, .inl (cI, 62, .inl f_hash)), (a_id, .inl (cI, 41, .inl f_id))]) (hS : va_S A s.heap H locs) (hl : lv_has ls 6 [(0, .ref a_this), (3, .int x3), (4, .int v_blocks), (5, .int z134_5)]), W p l e rm_mm_build s m args below meth c H locs 0 0 Q (F0 m 134 ls [])) (by
          intro bk134 hb134 z134_5 h ls H locs hP hD hS hl
          unfold m_mm_build_L134 at h
          try dsimp only at h
          refine lv_iload (pc := 134) hx hb d_mm_build_134 (lv_at hl 3 rfl) ?_
          refine lv_bipush (pc := 136) (v := 39) hx hb d_mm_build_136 (by decide) ?_
          refine lv_icmp_ge (pc := 138) (tgt := 162) hx hb d_mm_build_138 rfl (fun hc => ?_) (fun hc => ?_)
          · have h := mo_t hc h
            exact E134 z134_5 _ _ _ hP hD hS (lv_sub hl [0, 1, 2, 3] rfl) (by rw [Option.some.inj h]; exact hr134)
          · have h := mo_f hc h
            refine lv_aload_n (pc := 141) hx hb d_mm_build_141 rfl (lv_at hl 0 rfl) ?_
            refine lv_iload (pc := 142) hx hb d_mm_build_142 (lv_at hl 2 rfl) ?_
            refine lv_iload_n (pc := 144) hx hb d_mm_build_144 rfl (lv_at hl 1 rfl) ?_
            refine lv_iload (pc := 145) hx hb d_mm_build_145 (lv_at hl 3 rfl) ?_
            refine lv_iadd (pc := 147) hx hb d_mm_build_147 ?_
            obtain ⟨r148, hr148, h⟩ := mo_bd_e h
            refine mo_rV (pc := 148) (As := [.int v_blocks, .int (x3 + z134_5)]) (rest := []) (st1 := [.int r148]) ⟨hx, hb, hml, hown, hw⟩ (c_mm_hashOf l D cI cL cZ a_this a_parents a_parent a_hash a_holds a_held a_id a_blockLock a_inputs a_outputs a_source a_index a_secret a_lock a_amount a_past a_blues a_score a_selected a_orphan a_pool a_order a_merged a_accepted a_free a_coin a_worth v_limit v_made (v_blocks + 1) v_dag v_orphans v_pooled v_places g28 y45_f_parent f_hash g41 y83_f_held f_id g130 v_blocks (x3 + z134_5) r148 hr148) (kV_mm_117 hw ⟨by decide, by decide⟩) (hP.sub [0, 1, 3, 6, 2, 4, 7, 5] rfl) hK hN rfl rfl rfl hl.1 rfl rfl d_mm_build_148 rfl ?_
            refine lv_ldc (pc := 151) (v := 536870912) hx hb hown (hw _ wd_4_88) d_mm_build_151 ?_
            refine lv_icmp_lt (pc := 153) (tgt := 162) hx hb d_mm_build_153 rfl (fun hc => ?_) (fun hc => ?_)
            · have h := mo_t hc h
              exact E134 z134_5 _ _ _ hP hD hS (lv_sub hl [0, 1, 2, 3] rfl) (by rw [Option.some.inj h]; exact hr134)
            · have h := mo_f hc h
              refine lv_iinc (pc := 156) (k := 3) (v := z134_5 + 1) (lv' := [(5, .int (z134_5 + 1)), (0, .ref a_this), (3, .int x3), (4, .int v_blocks)]) hx hb d_mm_build_156 hl rfl (mo_inc1 _) (by decide) rfl (fun ls hl => ?_)
              refine lv_goto (pc := 159) (tgt := 134) hx hb d_mm_build_159 rfl ?_
              exact hb134 (z134_5 + 1) h _ _ _ hP hD hS (lv_sub hl [1, 2, 3, 0] rfl)
        ) _ _ hy134 _ _ _ hP hD hS (lv_sub hl [1, 3, 4, 0] rfl)
    exact mo_lp_i (step := (m_mm_build_L83 v_blocks x1)) (o := w83) (fun (x : Int32 × (Nat → Int32)) => match x with | (z83_5, z83_f_held) => ∀ (ls : Array Slot) (H : Heap) (locs : List Loc) (hP : va_P D cl [(a_this, .inr (7, [.int v_limit, .int v_made, .ref a_inputs, .ref a_outputs, .ref a_source, .ref a_index, .ref a_secret, .ref a_lock, .ref a_amount, .ref a_id, .int (v_blocks + 1), .ref a_parents, .ref a_parent, .ref a_holds, .ref a_held, .ref a_blockLock, .ref a_hash, .long v_dag, .ref a_past, .ref a_blues, .ref a_score, .ref a_selected, .int v_orphans, .ref a_orphan, .int v_pooled, .ref a_pool, .int v_places, .ref a_order, .ref a_merged, .ref a_accepted, .ref a_free, .ref a_coin, .ref a_worth])), (a_parents, .inl (cI, 62, .inl g28)), (a_holds, .inl (cI, 62, .inl g41)), (a_parent, .inl (cI, 248, .inl y45_f_parent)), (a_held, .inl (cI, 186, .inl z83_f_held)), (a_blockLock, .inl (cI, 62, .inl f_blockLock)), (a_hash, .inl (cI, 62, .inl f_hash)), (a_id, .inl (cI, 41, .inl f_id))] H) (hD : va_D A [(a_this, .inr (7, [.int v_limit, .int v_made, .ref a_inputs, .ref a_outputs, .ref a_source, .ref a_index, .ref a_secret, .ref a_lock, .ref a_amount, .ref a_id, .int (v_blocks + 1), .ref a_parents, .ref a_parent, .ref a_holds, .ref a_held, .ref a_blockLock, .ref a_hash, .long v_dag, .ref a_past, .ref a_blues, .ref a_score, .ref a_selected, .int v_orphans, .ref a_orphan, .int v_pooled, .ref a_pool, .int v_places, .ref a_order, .ref a_merged, .ref a_accepted, .ref a_free, .ref a_coin, .ref a_worth])), (a_parents, .inl (cI, 62, .inl g28)), (a_holds, .inl (cI, 62, .inl g41)), (a_parent, .inl (cI, 248, .inl y45_f_parent)), (a_held, .inl (cI, 186, .inl z83_f_held)), (a_blockLock, .inl (cI, 62, .inl f_blockLock)), (a_hash, .inl (cI, 62, .inl f_hash)), (a_id, .inl (cI, 41, .inl f_id))]) (hS : va_S A s.heap H locs) (hl : lv_has ls 6 [(0, .ref a_this), (1, .int x1), (2, .int x2), (3, .int x3), (4, .int v_blocks), (5, .int z83_5)]), W p l e rm_mm_build s m args below meth c H locs 0 0 Q (F0 m 83 ls [])) (by
        rintro bk83 hb83 ⟨z83_5, z83_f_held⟩ h ls H locs hP hD hS hl
        unfold m_mm_build_L83 at h
        try dsimp only at h
        refine lv_iload (pc := 83) hx hb d_mm_build_83 (lv_at hl 5 rfl) ?_
        refine lv_iconst (pc := 85) (v := 3) hx hb d_mm_build_85 (by decide) ?_
        refine lv_icmp_ge (pc := 86) (tgt := 118) hx hb d_mm_build_86 rfl (fun hc => ?_) (fun hc => ?_)
        · have h := mo_t hc h
          exact E83 z83_f_held _ _ _ hP hD hS (lv_sub hl [0, 2, 3, 4] rfl) (by rw [Option.some.inj h]; exact hr83)
        · have h := mo_f hc h
          refine lv_aload_n (pc := 89) hx hb d_mm_build_89 rfl (lv_at hl 0 rfl) ?_
          refine gf_mm_47 (pc := 90) hx hb hw hN hown hK hP 0 rfl rfl d_mm_build_90 ?_
          refine lv_iconst (pc := 93) (v := 3) hx hb d_mm_build_93 (by decide) ?_
          refine lv_iload (pc := 94) hx hb d_mm_build_94 (lv_at hl 4 rfl) ?_
          refine lv_imul (pc := 96) hx hb d_mm_build_96 ?_
          refine lv_iload (pc := 97) hx hb d_mm_build_97 (lv_at hl 5 rfl) ?_
          refine lv_iadd (pc := 99) hx hb d_mm_build_99 ?_
          refine lv_aload_n (pc := 100) hx hb d_mm_build_100 rfl (lv_at hl 0 rfl) ?_
          refine gf_mm_47 (pc := 101) hx hb hw hN hown hK hP 0 rfl rfl d_mm_build_101 ?_
          refine lv_iconst (pc := 104) (v := 3) hx hb d_mm_build_104 (by decide) ?_
          refine lv_iload_n (pc := 105) hx hb d_mm_build_105 rfl (lv_at hl 1 rfl) ?_
          refine lv_imul (pc := 106) hx hb d_mm_build_106 ?_
          refine lv_iload (pc := 107) hx hb d_mm_build_107 (lv_at hl 5 rfl) ?_
          refine lv_iadd (pc := 109) hx hb d_mm_build_109 ?_
          obtain ⟨v110, hi110, e110, h⟩ := mo_rI_e h
          refine mo_iald (pc := 110) hx hb hK hP 4 0 rfl rfl hi110 e110 d_mm_build_110 ?_
          obtain ⟨g111, hi111, e111, h⟩ := mo_wI_e h
          refine mo_iast (pc := 111) hx hb hK hP hD hS 4 0 rfl rfl hi111 e111 d_mm_build_111 (fun H locs hP hD hS => ?_)
          have hP : va_P D cl [(a_this, .inr (7, [.int v_limit, .int v_made, .ref a_inputs, .ref a_outputs, .ref a_source, .ref a_index, .ref a_secret, .ref a_lock, .ref a_amount, .ref a_id, .int (v_blocks + 1), .ref a_parents, .ref a_parent, .ref a_holds, .ref a_held, .ref a_blockLock, .ref a_hash, .long v_dag, .ref a_past, .ref a_blues, .ref a_score, .ref a_selected, .int v_orphans, .ref a_orphan, .int v_pooled, .ref a_pool, .int v_places, .ref a_order, .ref a_merged, .ref a_accepted, .ref a_free, .ref a_coin, .ref a_worth])), (a_parents, .inl (cI, 62, .inl g28)), (a_holds, .inl (cI, 62, .inl g41)), (a_parent, .inl (cI, 248, .inl y45_f_parent)), (a_held, .inl (cI, 186, .inl g111)), (a_blockLock, .inl (cI, 62, .inl f_blockLock)), (a_hash, .inl (cI, 62, .inl f_hash)), (a_id, .inl (cI, 41, .inl f_id))] H := hP
          have hD : va_D A [(a_this, .inr (7, [.int v_limit, .int v_made, .ref a_inputs, .ref a_outputs, .ref a_source, .ref a_index, .ref a_secret, .ref a_lock, .ref a_amount, .ref a_id, .int (v_blocks + 1), .ref a_parents, .ref a_parent, .ref a_holds, .ref a_held, .ref a_blockLock, .ref a_hash, .long v_dag, .ref a_past, .ref a_blues, .ref a_score, .ref a_selected, .int v_orphans, .ref a_orphan, .int v_pooled, .ref a_pool, .int v_places, .ref a_order, .ref a_merged, .ref a_accepted, .ref a_free, .ref a_coin, .ref a_worth])), (a_parents, .inl (cI, 62, .inl g28)), (a_holds, .inl (cI, 62, .inl g41)), (a_parent, .inl (cI, 248, .inl y45_f_parent)), (a_held, .inl (cI, 186, .inl g111)), (a_blockLock, .inl (cI, 62, .inl f_blockLock)), (a_hash, .inl (cI, 62, .inl f_hash)), (a_id, .inl (cI, 41, .inl f_id))] := hD
          refine lv_iinc (pc := 112) (k := 5) (v := z83_5 + 1) (lv' := [(5, .int (z83_5 + 1)), (0, .ref a_this), (1, .int x1), (2, .int x2), (3, .int x3), (4, .int v_blocks)]) hx hb d_mm_build_112 hl rfl (mo_inc1 _) (by decide) rfl (fun ls hl => ?_)
          refine lv_goto (pc := 115) (tgt := 83) hx hb d_mm_build_115 rfl ?_
          exact hb83 (z83_5 + 1, g111) h _ _ _ hP hD hS (lv_sub hl [1, 2, 3, 4, 5, 0] rfl)
      ) _ _ hy83 _ _ _ hP hD hS (lv_sub hl [1, 2, 3, 4, 5, 0] rfl)
  exact mo_lp_i (step := (m_mm_build_L45 v_blocks x1)) (o := w45) (fun (x : Int32 × (Nat → Int32)) => match x with | (z45_5, z45_f_parent) => ∀ (ls : Array Slot) (H : Heap) (locs : List Loc) (hP : va_P D cl [(a_this, .inr (7, [.int v_limit, .int v_made, .ref a_inputs, .ref a_outputs, .ref a_source, .ref a_index, .ref a_secret, .ref a_lock, .ref a_amount, .ref a_id, .int (v_blocks + 1), .ref a_parents, .ref a_parent, .ref a_holds, .ref a_held, .ref a_blockLock, .ref a_hash, .long v_dag, .ref a_past, .ref a_blues, .ref a_score, .ref a_selected, .int v_orphans, .ref a_orphan, .int v_pooled, .ref a_pool, .int v_places, .ref a_order, .ref a_merged, .ref a_accepted, .ref a_free, .ref a_coin, .ref a_worth])), (a_parents, .inl (cI, 62, .inl g28)), (a_holds, .inl (cI, 62, .inl g41)), (a_parent, .inl (cI, 248, .inl z45_f_parent)), (a_held, .inl (cI, 186, .inl f_held)), (a_blockLock, .inl (cI, 62, .inl f_blockLock)), (a_hash, .inl (cI, 62, .inl f_hash)), (a_id, .inl (cI, 41, .inl f_id))] H) (hD : va_D A [(a_this, .inr (7, [.int v_limit, .int v_made, .ref a_inputs, .ref a_outputs, .ref a_source, .ref a_index, .ref a_secret, .ref a_lock, .ref a_amount, .ref a_id, .int (v_blocks + 1), .ref a_parents, .ref a_parent, .ref a_holds, .ref a_held, .ref a_blockLock, .ref a_hash, .long v_dag, .ref a_past, .ref a_blues, .ref a_score, .ref a_selected, .int v_orphans, .ref a_orphan, .int v_pooled, .ref a_pool, .int v_places, .ref a_order, .ref a_merged, .ref a_accepted, .ref a_free, .ref a_coin, .ref a_worth])), (a_parents, .inl (cI, 62, .inl g28)), (a_holds, .inl (cI, 62, .inl g41)), (a_parent, .inl (cI, 248, .inl z45_f_parent)), (a_held, .inl (cI, 186, .inl f_held)), (a_blockLock, .inl (cI, 62, .inl f_blockLock)), (a_hash, .inl (cI, 62, .inl f_hash)), (a_id, .inl (cI, 41, .inl f_id))]) (hS : va_S A s.heap H locs) (hl : lv_has ls 6 [(0, .ref a_this), (1, .int x1), (2, .int x2), (3, .int x3), (4, .int v_blocks), (5, .int z45_5)]), W p l e rm_mm_build s m args below meth c H locs 0 0 Q (F0 m 45 ls [])) (by
      rintro bk45 hb45 ⟨z45_5, z45_f_parent⟩ h ls H locs hP hD hS hl
      unfold m_mm_build_L45 at h
      try dsimp only at h
      refine lv_iload (pc := 45) hx hb d_mm_build_45 (lv_at hl 5 rfl) ?_
      refine lv_iconst (pc := 47) (v := 4) hx hb d_mm_build_47 (by decide) ?_
      refine lv_icmp_ge (pc := 48) (tgt := 80) hx hb d_mm_build_48 rfl (fun hc => ?_) (fun hc => ?_)
      · have h := mo_t hc h
        exact E45 z45_f_parent _ _ _ hP hD hS (lv_sub hl [0, 1, 2, 3, 4] rfl) (by rw [Option.some.inj h]; exact hr45)
      · have h := mo_f hc h
        refine lv_aload_n (pc := 51) hx hb d_mm_build_51 rfl (lv_at hl 0 rfl) ?_
        refine gf_mm_41 (pc := 52) hx hb hw hN hown hK hP 0 rfl rfl d_mm_build_52 ?_
        refine lv_iconst (pc := 55) (v := 4) hx hb d_mm_build_55 (by decide) ?_
        refine lv_iload (pc := 56) hx hb d_mm_build_56 (lv_at hl 4 rfl) ?_
        refine lv_imul (pc := 58) hx hb d_mm_build_58 ?_
        refine lv_iload (pc := 59) hx hb d_mm_build_59 (lv_at hl 5 rfl) ?_
        refine lv_iadd (pc := 61) hx hb d_mm_build_61 ?_
        refine lv_aload_n (pc := 62) hx hb d_mm_build_62 rfl (lv_at hl 0 rfl) ?_
        refine gf_mm_41 (pc := 63) hx hb hw hN hown hK hP 0 rfl rfl d_mm_build_63 ?_
        refine lv_iconst (pc := 66) (v := 4) hx hb d_mm_build_66 (by decide) ?_
        refine lv_iload_n (pc := 67) hx hb d_mm_build_67 rfl (lv_at hl 1 rfl) ?_
        refine lv_imul (pc := 68) hx hb d_mm_build_68 ?_
        refine lv_iload (pc := 69) hx hb d_mm_build_69 (lv_at hl 5 rfl) ?_
        refine lv_iadd (pc := 71) hx hb d_mm_build_71 ?_
        obtain ⟨v72, hi72, e72, h⟩ := mo_rI_e h
        refine mo_iald (pc := 72) hx hb hK hP 3 0 rfl rfl hi72 e72 d_mm_build_72 ?_
        obtain ⟨g73, hi73, e73, h⟩ := mo_wI_e h
        refine mo_iast (pc := 73) hx hb hK hP hD hS 3 0 rfl rfl hi73 e73 d_mm_build_73 (fun H locs hP hD hS => ?_)
        have hP : va_P D cl [(a_this, .inr (7, [.int v_limit, .int v_made, .ref a_inputs, .ref a_outputs, .ref a_source, .ref a_index, .ref a_secret, .ref a_lock, .ref a_amount, .ref a_id, .int (v_blocks + 1), .ref a_parents, .ref a_parent, .ref a_holds, .ref a_held, .ref a_blockLock, .ref a_hash, .long v_dag, .ref a_past, .ref a_blues, .ref a_score, .ref a_selected, .int v_orphans, .ref a_orphan, .int v_pooled, .ref a_pool, .int v_places, .ref a_order, .ref a_merged, .ref a_accepted, .ref a_free, .ref a_coin, .ref a_worth])), (a_parents, .inl (cI, 62, .inl g28)), (a_holds, .inl (cI, 62, .inl g41)), (a_parent, .inl (cI, 248, .inl g73)), (a_held, .inl (cI, 186, .inl f_held)), (a_blockLock, .inl (cI, 62, .inl f_blockLock)), (a_hash, .inl (cI, 62, .inl f_hash)), (a_id, .inl (cI, 41, .inl f_id))] H := hP
        have hD : va_D A [(a_this, .inr (7, [.int v_limit, .int v_made, .ref a_inputs, .ref a_outputs, .ref a_source, .ref a_index, .ref a_secret, .ref a_lock, .ref a_amount, .ref a_id, .int (v_blocks + 1), .ref a_parents, .ref a_parent, .ref a_holds, .ref a_held, .ref a_blockLock, .ref a_hash, .long v_dag, .ref a_past, .ref a_blues, .ref a_score, .ref a_selected, .int v_orphans, .ref a_orphan, .int v_pooled, .ref a_pool, .int v_places, .ref a_order, .ref a_merged, .ref a_accepted, .ref a_free, .ref a_coin, .ref a_worth])), (a_parents, .inl (cI, 62, .inl g28)), (a_holds, .inl (cI, 62, .inl g41)), (a_parent, .inl (cI, 248, .inl g73)), (a_held, .inl (cI, 186, .inl f_held)), (a_blockLock, .inl (cI, 62, .inl f_blockLock)), (a_hash, .inl (cI, 62, .inl f_hash)), (a_id, .inl (cI, 41, .inl f_id))] := hD
        refine lv_iinc (pc := 74) (k := 5) (v := z45_5 + 1) (lv' := [(5, .int (z45_5 + 1)), (0, .ref a_this), (1, .int x1), (2, .int x2), (3, .int x3), (4, .int v_blocks)]) hx hb d_mm_build_74 hl rfl (mo_inc1 _) (by decide) rfl (fun ls hl => ?_)
        refine lv_goto (pc := 77) (tgt := 45) hx hb d_mm_build_77 rfl ?_
        exact hb45 (z45_5 + 1, g73) h _ _ _ hP hD hS (lv_sub hl [1, 2, 3, 4, 5, 0] rfl)
    ) _ _ hy45 _ _ _ hP hD hS (lv_sub hl [2, 3, 4, 5, 1, 0] rfl)
set_option maxRecDepth 100000 in
set_option maxHeartbeats 4000000 in
theorem c_mm_make (l : Launch) (D : va_G) (cI cL cZ : ClassId) (a_this : Nat) (a_parents : Nat) (a_holds : Nat) (a_parent : Nat) (a_held : Nat) (a_blockLock : Nat) (a_hash : Nat) (a_id : Nat) (a_inputs : Nat) (a_outputs : Nat) (a_source : Nat) (a_index : Nat) (a_secret : Nat) (a_lock : Nat) (a_amount : Nat) (a_past : Nat) (a_blues : Nat) (a_score : Nat) (a_selected : Nat) (a_orphan : Nat) (a_pool : Nat) (a_order : Nat) (a_merged : Nat) (a_accepted : Nat) (a_free : Nat) (a_coin : Nat) (a_worth : Nat) (v_limit : Int32) (v_made : Int32) (v_blocks : Int32) (v_dag : Int64) (v_orphans : Int32) (v_pooled : Int32) (v_places : Int32) (f_parents : Nat → Int32) (f_holds : Nat → Int32) (f_parent : Nat → Int32) (f_held : Nat → Int32) (f_blockLock : Nat → Int32) (f_hash : Nat → Int32) (f_id : Nat → Int32) (x1 : Int32) (x2 : Int32) (o : Int32 × Int32 × (Nat → Int32) × (Nat → Int32) × (Nat → Int32) × (Nat → Int32) × (Nat → Int32) × (Nat → Int32)) (h : m_mm_make v_blocks f_parents f_holds f_parent f_held f_blockLock f_hash f_id x1 x2 = some o) : Met l y_mm_make (Cond.code y_mm_make b_mm_make 4 (some .int) :: WG) rm_mm_make (va_Pc [.ref a_this, .int x1, .int x2] (mo_Pm D [(cI, .int), (cL, .long), (cZ, .boolean)] [(a_this, .inr (7, [.int v_limit, .int v_made, .ref a_inputs, .ref a_outputs, .ref a_source, .ref a_index, .ref a_secret, .ref a_lock, .ref a_amount, .ref a_id, .int v_blocks, .ref a_parents, .ref a_parent, .ref a_holds, .ref a_held, .ref a_blockLock, .ref a_hash, .long v_dag, .ref a_past, .ref a_blues, .ref a_score, .ref a_selected, .int v_orphans, .ref a_orphan, .int v_pooled, .ref a_pool, .int v_places, .ref a_order, .ref a_merged, .ref a_accepted, .ref a_free, .ref a_coin, .ref a_worth])), (a_parents, .inl (cI, 62, .inl f_parents)), (a_holds, .inl (cI, 62, .inl f_holds)), (a_parent, .inl (cI, 248, .inl f_parent)), (a_held, .inl (cI, 186, .inl f_held)), (a_blockLock, .inl (cI, 62, .inl f_blockLock)), (a_hash, .inl (cI, 62, .inl f_hash)), (a_id, .inl (cI, 41, .inl f_id))])) (mo_Qm D [(a_this, .inr (7, [.int v_limit, .int v_made, .ref a_inputs, .ref a_outputs, .ref a_source, .ref a_index, .ref a_secret, .ref a_lock, .ref a_amount, .ref a_id, .int v_blocks, .ref a_parents, .ref a_parent, .ref a_holds, .ref a_held, .ref a_blockLock, .ref a_hash, .long v_dag, .ref a_past, .ref a_blues, .ref a_score, .ref a_selected, .int v_orphans, .ref a_orphan, .int v_pooled, .ref a_pool, .int v_places, .ref a_order, .ref a_merged, .ref a_accepted, .ref a_free, .ref a_coin, .ref a_worth])), (a_parents, .inl (cI, 62, .inl f_parents)), (a_holds, .inl (cI, 62, .inl f_holds)), (a_parent, .inl (cI, 248, .inl f_parent)), (a_held, .inl (cI, 186, .inl f_held)), (a_blockLock, .inl (cI, 62, .inl f_blockLock)), (a_hash, .inl (cI, 62, .inl f_hash)), (a_id, .inl (cI, 41, .inl f_id))] (fun (o : Int32 × Int32 × (Nat → Int32) × (Nat → Int32) × (Nat → Int32) × (Nat → Int32) × (Nat → Int32) × (Nat → Int32)) => [(a_this, .inr (7, [.int v_limit, .int v_made, .ref a_inputs, .ref a_outputs, .ref a_source, .ref a_index, .ref a_secret, .ref a_lock, .ref a_amount, .ref a_id, .int o.2.1, .ref a_parents, .ref a_parent, .ref a_holds, .ref a_held, .ref a_blockLock, .ref a_hash, .long v_dag, .ref a_past, .ref a_blues, .ref a_score, .ref a_selected, .int v_orphans, .ref a_orphan, .int v_pooled, .ref a_pool, .int v_places, .ref a_order, .ref a_merged, .ref a_accepted, .ref a_free, .ref a_coin, .ref a_worth])), (a_parents, .inl (cI, 62, .inl o.2.2.1)), (a_holds, .inl (cI, 62, .inl o.2.2.2.1)), (a_parent, .inl (cI, 248, .inl o.2.2.2.2.1)), (a_held, .inl (cI, 186, .inl o.2.2.2.2.2.1)), (a_blockLock, .inl (cI, 62, .inl o.2.2.2.2.2.2.1)), (a_hash, .inl (cI, 62, .inl o.2.2.2.2.2.2.2)), (a_id, .inl (cI, 41, .inl f_id))]) (fun (o : Int32 × Int32 × (Nat → Int32) × (Nat → Int32) × (Nat → Int32) × (Nat → Int32) × (Nat → Int32) × (Nat → Int32)) => (some (.int o.1))) o) 0 0 (mo_A [(a_this, .inr (7, [.int v_limit, .int v_made, .ref a_inputs, .ref a_outputs, .ref a_source, .ref a_index, .ref a_secret, .ref a_lock, .ref a_amount, .ref a_id, .int v_blocks, .ref a_parents, .ref a_parent, .ref a_holds, .ref a_held, .ref a_blockLock, .ref a_hash, .long v_dag, .ref a_past, .ref a_blues, .ref a_score, .ref a_selected, .int v_orphans, .ref a_orphan, .int v_pooled, .ref a_pool, .int v_places, .ref a_order, .ref a_merged, .ref a_accepted, .ref a_free, .ref a_coin, .ref a_worth])), (a_parents, .inl (cI, 62, .inl f_parents)), (a_holds, .inl (cI, 62, .inl f_holds)), (a_parent, .inl (cI, 248, .inl f_parent)), (a_held, .inl (cI, 186, .inl f_held)), (a_blockLock, .inl (cI, 62, .inl f_blockLock)), (a_hash, .inl (cI, 62, .inl f_hash)), (a_id, .inl (cI, 41, .inl f_id))]) := by
  refine mo_start (by decide) (Nat.le_of_ble_eq_true rfl) ?_
  intro p e s m args below meth c hx hb hr hlocks hml hown hw hv ls hl Q hQ
  obtain ⟨hP, hK, hN, hD0⟩ := hv
  have hl : lv_has ls 4 [(0, .ref a_this), (1, .int x1), (2, .int x2)] := hl
  obtain ⟨A, hA2⟩ : ∃ A, A = mo_A [(a_this, .inr (7, [.int v_limit, .int v_made, .ref a_inputs, .ref a_outputs, .ref a_source, .ref a_index, .ref a_secret, .ref a_lock, .ref a_amount, .ref a_id, .int v_blocks, .ref a_parents, .ref a_parent, .ref a_holds, .ref a_held, .ref a_blockLock, .ref a_hash, .long v_dag, .ref a_past, .ref a_blues, .ref a_score, .ref a_selected, .int v_orphans, .ref a_orphan, .int v_pooled, .ref a_pool, .int v_places, .ref a_order, .ref a_merged, .ref a_accepted, .ref a_free, .ref a_coin, .ref a_worth])), (a_parents, .inl (cI, 62, .inl f_parents)), (a_holds, .inl (cI, 62, .inl f_holds)), (a_parent, .inl (cI, 248, .inl f_parent)), (a_held, .inl (cI, 186, .inl f_held)), (a_blockLock, .inl (cI, 62, .inl f_blockLock)), (a_hash, .inl (cI, 62, .inl f_hash)), (a_id, .inl (cI, 41, .inl f_id))] := ⟨_, rfl⟩
  have hD : va_D A [(a_this, .inr (7, [.int v_limit, .int v_made, .ref a_inputs, .ref a_outputs, .ref a_source, .ref a_index, .ref a_secret, .ref a_lock, .ref a_amount, .ref a_id, .int v_blocks, .ref a_parents, .ref a_parent, .ref a_holds, .ref a_held, .ref a_blockLock, .ref a_hash, .long v_dag, .ref a_past, .ref a_blues, .ref a_score, .ref a_selected, .int v_orphans, .ref a_orphan, .int v_pooled, .ref a_pool, .int v_places, .ref a_order, .ref a_merged, .ref a_accepted, .ref a_free, .ref a_coin, .ref a_worth])), (a_parents, .inl (cI, 62, .inl f_parents)), (a_holds, .inl (cI, 62, .inl f_holds)), (a_parent, .inl (cI, 248, .inl f_parent)), (a_held, .inl (cI, 186, .inl f_held)), (a_blockLock, .inl (cI, 62, .inl f_blockLock)), (a_hash, .inl (cI, 62, .inl f_hash)), (a_id, .inl (cI, 41, .inl f_id))] := hA2 ▸ mo_self hD0
  have hS : va_S A s.heap s.heap [] := va_S.rf
  unfold m_mm_make at h
  refine lv_aload_n (pc := 0) hx hb d_mm_make_0 rfl (lv_at hl 0 rfl) ?_
  refine gf_mm_38 (pc := 1) hx hb hw hN hown hK hP 0 rfl rfl d_mm_make_1 ?_
  refine lv_bipush (pc := 4) (v := 60) hx hb d_mm_make_4 (by decide) ?_
  obtain ⟨v6, hi6, e6, h⟩ := mo_rI_e h
  refine mo_iald (pc := 6) hx hb hK hP 1 0 rfl rfl hi6 e6 d_mm_make_6 ?_
  refine lv_if_eq (pc := 7) (tgt := 19) hx hb d_mm_make_7 rfl (fun hc => ?_) (fun hc => ?_)
  · have h := mo_t hc h
    refine lv_iconst (pc := 19) (v := (-1)) hx hb d_mm_make_19 (by decide) ?_
    exact mo_retIm hx hb hr hlocks hQ hA2 h hP hS d_mm_make_20 rfl
  · have h := mo_f hc h
    refine lv_aload_n (pc := 10) hx hb d_mm_make_10 rfl (lv_at hl 0 rfl) ?_
    refine gf_mm_34 (pc := 11) hx hb hw hN hown hK hP 0 rfl rfl d_mm_make_11 ?_
    refine lv_bipush (pc := 14) (v := 60) hx hb d_mm_make_14 (by decide) ?_
    refine lv_icmp_ne (pc := 16) (tgt := 21) hx hb d_mm_make_16 rfl (fun hc => ?_) (fun hc => ?_)
    · have h := mo_f hc h
      refine lv_aload_n (pc := 21) hx hb d_mm_make_21 rfl (lv_at hl 0 rfl) ?_
      refine lv_bipush (pc := 22) (v := 60) hx hb d_mm_make_22 (by decide) ?_
      refine lv_iload_n (pc := 24) hx hb d_mm_make_24 rfl (lv_at hl 1 rfl) ?_
      refine lv_iload_n (pc := 25) hx hb d_mm_make_25 rfl (lv_at hl 2 rfl) ?_
      obtain ⟨⟨r26, r26_0, r26_1, r26_2, r26_3, r26_4, r26_5, r26_6⟩, hr26, h⟩ := mo_bd_e h
      try dsimp only at h
      refine mo_mV (pc := 26) (As := [.int 60, .int x1, .int x2]) (rest := []) (st1 := [.int r26]) ⟨hx, hb, hml, hown, hw⟩ (c_mm_build l D cI cL cZ a_this a_parents a_holds a_parent a_held a_blockLock a_hash a_id a_inputs a_outputs a_source a_index a_secret a_lock a_amount a_past a_blues a_score a_selected a_orphan a_pool a_order a_merged a_accepted a_free a_coin a_worth v_limit v_made v_blocks v_dag v_orphans v_pooled v_places f_parents f_holds f_parent f_held f_blockLock f_hash f_id 60 x1 x2 (r26, r26_0, r26_1, r26_2, r26_3, r26_4, r26_5, r26_6) hr26) (kV_mm_121 hw ⟨by decide, by decide⟩) hP hD hS hK hN [0, 1, 2, 3, 4, 5, 6, 7] [some 0, some 1, some 2, some 3, some 4, some 5, some 6, some 7] rfl rfl rfl rfl rfl rfl rfl hl.1 rfl rfl d_mm_make_26 rfl (fun H locs hP hD hS => ?_)
      have hP : va_P D cl [(a_this, .inr (7, [.int v_limit, .int v_made, .ref a_inputs, .ref a_outputs, .ref a_source, .ref a_index, .ref a_secret, .ref a_lock, .ref a_amount, .ref a_id, .int r26_0, .ref a_parents, .ref a_parent, .ref a_holds, .ref a_held, .ref a_blockLock, .ref a_hash, .long v_dag, .ref a_past, .ref a_blues, .ref a_score, .ref a_selected, .int v_orphans, .ref a_orphan, .int v_pooled, .ref a_pool, .int v_places, .ref a_order, .ref a_merged, .ref a_accepted, .ref a_free, .ref a_coin, .ref a_worth])), (a_parents, .inl (cI, 62, .inl r26_1)), (a_holds, .inl (cI, 62, .inl r26_2)), (a_parent, .inl (cI, 248, .inl r26_3)), (a_held, .inl (cI, 186, .inl r26_4)), (a_blockLock, .inl (cI, 62, .inl r26_5)), (a_hash, .inl (cI, 62, .inl r26_6)), (a_id, .inl (cI, 41, .inl f_id))] H := hP
      have hD : va_D A [(a_this, .inr (7, [.int v_limit, .int v_made, .ref a_inputs, .ref a_outputs, .ref a_source, .ref a_index, .ref a_secret, .ref a_lock, .ref a_amount, .ref a_id, .int r26_0, .ref a_parents, .ref a_parent, .ref a_holds, .ref a_held, .ref a_blockLock, .ref a_hash, .long v_dag, .ref a_past, .ref a_blues, .ref a_score, .ref a_selected, .int v_orphans, .ref a_orphan, .int v_pooled, .ref a_pool, .int v_places, .ref a_order, .ref a_merged, .ref a_accepted, .ref a_free, .ref a_coin, .ref a_worth])), (a_parents, .inl (cI, 62, .inl r26_1)), (a_holds, .inl (cI, 62, .inl r26_2)), (a_parent, .inl (cI, 248, .inl r26_3)), (a_held, .inl (cI, 186, .inl r26_4)), (a_blockLock, .inl (cI, 62, .inl r26_5)), (a_hash, .inl (cI, 62, .inl r26_6)), (a_id, .inl (cI, 41, .inl f_id))] := hD
      refine lv_istore_n (pc := 29) (lv' := [(3, .int r26), (0, .ref a_this), (1, .int x1), (2, .int x2)]) hx hb d_mm_make_29 rfl hl (by decide) rfl (fun ls hl => ?_)
      refine lv_aload_n (pc := 30) hx hb d_mm_make_30 rfl (lv_at hl 1 rfl) ?_
      refine gf_mm_38 (pc := 31) hx hb hw hN hown hK hP 0 rfl rfl d_mm_make_31 ?_
      refine lv_bipush (pc := 34) (v := 60) hx hb d_mm_make_34 (by decide) ?_
      refine lv_iconst (pc := 36) (v := 0) hx hb d_mm_make_36 (by decide) ?_
      obtain ⟨g37, hi37, e37, h⟩ := mo_wI_e h
      refine mo_iast (pc := 37) hx hb hK hP hD hS 1 0 rfl rfl hi37 e37 d_mm_make_37 (fun H locs hP hD hS => ?_)
      have hP : va_P D cl [(a_this, .inr (7, [.int v_limit, .int v_made, .ref a_inputs, .ref a_outputs, .ref a_source, .ref a_index, .ref a_secret, .ref a_lock, .ref a_amount, .ref a_id, .int r26_0, .ref a_parents, .ref a_parent, .ref a_holds, .ref a_held, .ref a_blockLock, .ref a_hash, .long v_dag, .ref a_past, .ref a_blues, .ref a_score, .ref a_selected, .int v_orphans, .ref a_orphan, .int v_pooled, .ref a_pool, .int v_places, .ref a_order, .ref a_merged, .ref a_accepted, .ref a_free, .ref a_coin, .ref a_worth])), (a_parents, .inl (cI, 62, .inl g37)), (a_holds, .inl (cI, 62, .inl r26_2)), (a_parent, .inl (cI, 248, .inl r26_3)), (a_held, .inl (cI, 186, .inl r26_4)), (a_blockLock, .inl (cI, 62, .inl r26_5)), (a_hash, .inl (cI, 62, .inl r26_6)), (a_id, .inl (cI, 41, .inl f_id))] H := hP
      have hD : va_D A [(a_this, .inr (7, [.int v_limit, .int v_made, .ref a_inputs, .ref a_outputs, .ref a_source, .ref a_index, .ref a_secret, .ref a_lock, .ref a_amount, .ref a_id, .int r26_0, .ref a_parents, .ref a_parent, .ref a_holds, .ref a_held, .ref a_blockLock, .ref a_hash, .long v_dag, .ref a_past, .ref a_blues, .ref a_score, .ref a_selected, .int v_orphans, .ref a_orphan, .int v_pooled, .ref a_pool, .int v_places, .ref a_order, .ref a_merged, .ref a_accepted, .ref a_free, .ref a_coin, .ref a_worth])), (a_parents, .inl (cI, 62, .inl g37)), (a_holds, .inl (cI, 62, .inl r26_2)), (a_parent, .inl (cI, 248, .inl r26_3)), (a_held, .inl (cI, 186, .inl r26_4)), (a_blockLock, .inl (cI, 62, .inl r26_5)), (a_hash, .inl (cI, 62, .inl r26_6)), (a_id, .inl (cI, 41, .inl f_id))] := hD
      refine lv_aload_n (pc := 38) hx hb d_mm_make_38 rfl (lv_at hl 1 rfl) ?_
      refine gf_mm_44 (pc := 39) hx hb hw hN hown hK hP 0 rfl rfl d_mm_make_39 ?_
      refine lv_bipush (pc := 42) (v := 60) hx hb d_mm_make_42 (by decide) ?_
      refine lv_iconst (pc := 44) (v := 0) hx hb d_mm_make_44 (by decide) ?_
      obtain ⟨g45, hi45, e45, h⟩ := mo_wI_e h
      refine mo_iast (pc := 45) hx hb hK hP hD hS 2 0 rfl rfl hi45 e45 d_mm_make_45 (fun H locs hP hD hS => ?_)
      have hP : va_P D cl [(a_this, .inr (7, [.int v_limit, .int v_made, .ref a_inputs, .ref a_outputs, .ref a_source, .ref a_index, .ref a_secret, .ref a_lock, .ref a_amount, .ref a_id, .int r26_0, .ref a_parents, .ref a_parent, .ref a_holds, .ref a_held, .ref a_blockLock, .ref a_hash, .long v_dag, .ref a_past, .ref a_blues, .ref a_score, .ref a_selected, .int v_orphans, .ref a_orphan, .int v_pooled, .ref a_pool, .int v_places, .ref a_order, .ref a_merged, .ref a_accepted, .ref a_free, .ref a_coin, .ref a_worth])), (a_parents, .inl (cI, 62, .inl g37)), (a_holds, .inl (cI, 62, .inl g45)), (a_parent, .inl (cI, 248, .inl r26_3)), (a_held, .inl (cI, 186, .inl r26_4)), (a_blockLock, .inl (cI, 62, .inl r26_5)), (a_hash, .inl (cI, 62, .inl r26_6)), (a_id, .inl (cI, 41, .inl f_id))] H := hP
      have hD : va_D A [(a_this, .inr (7, [.int v_limit, .int v_made, .ref a_inputs, .ref a_outputs, .ref a_source, .ref a_index, .ref a_secret, .ref a_lock, .ref a_amount, .ref a_id, .int r26_0, .ref a_parents, .ref a_parent, .ref a_holds, .ref a_held, .ref a_blockLock, .ref a_hash, .long v_dag, .ref a_past, .ref a_blues, .ref a_score, .ref a_selected, .int v_orphans, .ref a_orphan, .int v_pooled, .ref a_pool, .int v_places, .ref a_order, .ref a_merged, .ref a_accepted, .ref a_free, .ref a_coin, .ref a_worth])), (a_parents, .inl (cI, 62, .inl g37)), (a_holds, .inl (cI, 62, .inl g45)), (a_parent, .inl (cI, 248, .inl r26_3)), (a_held, .inl (cI, 186, .inl r26_4)), (a_blockLock, .inl (cI, 62, .inl r26_5)), (a_hash, .inl (cI, 62, .inl r26_6)), (a_id, .inl (cI, 41, .inl f_id))] := hD
      refine lv_iload_n (pc := 46) hx hb d_mm_make_46 rfl (lv_at hl 0 rfl) ?_
      exact mo_retIm hx hb hr hlocks hQ hA2 h hP hS d_mm_make_47 rfl
    · have h := mo_t hc h
      refine lv_iconst (pc := 19) (v := (-1)) hx hb d_mm_make_19 (by decide) ?_
      exact mo_retIm hx hb hr hlocks hQ hA2 h hP hS d_mm_make_20 rfl
set_option maxRecDepth 100000 in
set_option maxHeartbeats 4000000 in
theorem c_mm_settle (l : Launch) (D : va_G) (cI cL cZ : ClassId) (a_this : Nat) (a_parents : Nat) (a_parent : Nat) (a_past : Nat) (a_score : Nat) (a_hash : Nat) (a_selected : Nat) (a_blues : Nat) (a_merged : Nat) (a_order : Nat) (a_accepted : Nat) (a_free : Nat) (a_coin : Nat) (a_holds : Nat) (a_held : Nat) (a_inputs : Nat) (a_source : Nat) (a_index : Nat) (a_lock : Nat) (a_blockLock : Nat) (a_secret : Nat) (a_amount : Nat) (a_worth : Nat) (a_outputs : Nat) (a_pool : Nat) (a_id : Nat) (a_orphan : Nat) (v_limit : Int32) (v_made : Int32) (v_blocks : Int32) (v_dag : Int64) (v_orphans : Int32) (v_pooled : Int32) (v_places : Int32) (f_parents : Nat → Int32) (f_parent : Nat → Int32) (f_past : Nat → Int64) (f_score : Nat → Int32) (f_hash : Nat → Int32) (f_selected : Nat → Int32) (f_blues : Nat → Int64) (f_merged : Nat → Int32) (f_order : Nat → Int32) (f_accepted : Nat → Int32) (f_free : Nat → Int32) (f_coin : Nat → Int32) (f_holds : Nat → Int32) (f_held : Nat → Int32) (f_inputs : Nat → Int32) (f_source : Nat → Int32) (f_index : Nat → Int32) (f_lock : Nat → Int32) (f_blockLock : Nat → Int32) (f_secret : Nat → Int32) (f_amount : Nat → Int32) (f_worth : Nat → Int32) (f_outputs : Nat → Int32) (f_pool : Nat → Int32) (o : Int32 × Int32 × (Nat → Int64) × (Nat → Int32) × (Nat → Int32) × (Nat → Int64) × (Nat → Int32) × (Nat → Int32) × (Nat → Int32) × (Nat → Int32) × (Nat → Int32) × (Nat → Int32) × (Nat → Int32)) (h : m_mm_settle v_limit v_blocks v_dag v_pooled v_places f_parents f_parent f_past f_score f_hash f_selected f_blues f_merged f_order f_accepted f_free f_coin f_holds f_held f_inputs f_source f_index f_lock f_blockLock f_secret f_amount f_worth f_outputs f_pool = some o) : Met l y_mm_settle (Cond.code y_mm_settle b_mm_settle 4 none :: WG) rm_mm_settle (va_Pc [.ref a_this] (mo_Pm D [(cI, .int), (cL, .long), (cZ, .boolean)] [(a_this, .inr (7, [.int v_limit, .int v_made, .ref a_inputs, .ref a_outputs, .ref a_source, .ref a_index, .ref a_secret, .ref a_lock, .ref a_amount, .ref a_id, .int v_blocks, .ref a_parents, .ref a_parent, .ref a_holds, .ref a_held, .ref a_blockLock, .ref a_hash, .long v_dag, .ref a_past, .ref a_blues, .ref a_score, .ref a_selected, .int v_orphans, .ref a_orphan, .int v_pooled, .ref a_pool, .int v_places, .ref a_order, .ref a_merged, .ref a_accepted, .ref a_free, .ref a_coin, .ref a_worth])), (a_parents, .inl (cI, 62, .inl f_parents)), (a_parent, .inl (cI, 248, .inl f_parent)), (a_past, .inl (cL, 61, .inr (.inl f_past))), (a_score, .inl (cI, 61, .inl f_score)), (a_hash, .inl (cI, 62, .inl f_hash)), (a_selected, .inl (cI, 61, .inl f_selected)), (a_blues, .inl (cL, 61, .inr (.inl f_blues))), (a_merged, .inl (cI, 64, .inl f_merged)), (a_order, .inl (cI, 64, .inl f_order)), (a_accepted, .inl (cZ, 40, .inl f_accepted)), (a_free, .inl (cZ, 80, .inl f_free)), (a_coin, .inl (cZ, 60, .inl f_coin)), (a_holds, .inl (cI, 62, .inl f_holds)), (a_held, .inl (cI, 186, .inl f_held)), (a_inputs, .inl (cI, 41, .inl f_inputs)), (a_source, .inl (cI, 82, .inl f_source)), (a_index, .inl (cI, 82, .inl f_index)), (a_lock, .inl (cI, 82, .inl f_lock)), (a_blockLock, .inl (cI, 62, .inl f_blockLock)), (a_secret, .inl (cI, 82, .inl f_secret)), (a_amount, .inl (cI, 82, .inl f_amount)), (a_worth, .inl (cI, 60, .inl f_worth)), (a_outputs, .inl (cI, 41, .inl f_outputs)), (a_pool, .inl (cI, 8, .inl f_pool))])) (mo_Qm D [(a_this, .inr (7, [.int v_limit, .int v_made, .ref a_inputs, .ref a_outputs, .ref a_source, .ref a_index, .ref a_secret, .ref a_lock, .ref a_amount, .ref a_id, .int v_blocks, .ref a_parents, .ref a_parent, .ref a_holds, .ref a_held, .ref a_blockLock, .ref a_hash, .long v_dag, .ref a_past, .ref a_blues, .ref a_score, .ref a_selected, .int v_orphans, .ref a_orphan, .int v_pooled, .ref a_pool, .int v_places, .ref a_order, .ref a_merged, .ref a_accepted, .ref a_free, .ref a_coin, .ref a_worth])), (a_parents, .inl (cI, 62, .inl f_parents)), (a_parent, .inl (cI, 248, .inl f_parent)), (a_past, .inl (cL, 61, .inr (.inl f_past))), (a_score, .inl (cI, 61, .inl f_score)), (a_hash, .inl (cI, 62, .inl f_hash)), (a_selected, .inl (cI, 61, .inl f_selected)), (a_blues, .inl (cL, 61, .inr (.inl f_blues))), (a_merged, .inl (cI, 64, .inl f_merged)), (a_order, .inl (cI, 64, .inl f_order)), (a_accepted, .inl (cZ, 40, .inl f_accepted)), (a_free, .inl (cZ, 80, .inl f_free)), (a_coin, .inl (cZ, 60, .inl f_coin)), (a_holds, .inl (cI, 62, .inl f_holds)), (a_held, .inl (cI, 186, .inl f_held)), (a_inputs, .inl (cI, 41, .inl f_inputs)), (a_source, .inl (cI, 82, .inl f_source)), (a_index, .inl (cI, 82, .inl f_index)), (a_lock, .inl (cI, 82, .inl f_lock)), (a_blockLock, .inl (cI, 62, .inl f_blockLock)), (a_secret, .inl (cI, 82, .inl f_secret)), (a_amount, .inl (cI, 82, .inl f_amount)), (a_worth, .inl (cI, 60, .inl f_worth)), (a_outputs, .inl (cI, 41, .inl f_outputs)), (a_pool, .inl (cI, 8, .inl f_pool))] (fun (o : Int32 × Int32 × (Nat → Int64) × (Nat → Int32) × (Nat → Int32) × (Nat → Int64) × (Nat → Int32) × (Nat → Int32) × (Nat → Int32) × (Nat → Int32) × (Nat → Int32) × (Nat → Int32) × (Nat → Int32)) => [(a_this, .inr (7, [.int v_limit, .int v_made, .ref a_inputs, .ref a_outputs, .ref a_source, .ref a_index, .ref a_secret, .ref a_lock, .ref a_amount, .ref a_id, .int v_blocks, .ref a_parents, .ref a_parent, .ref a_holds, .ref a_held, .ref a_blockLock, .ref a_hash, .long v_dag, .ref a_past, .ref a_blues, .ref a_score, .ref a_selected, .int v_orphans, .ref a_orphan, .int o.1, .ref a_pool, .int o.2.1, .ref a_order, .ref a_merged, .ref a_accepted, .ref a_free, .ref a_coin, .ref a_worth])), (a_parents, .inl (cI, 62, .inl f_parents)), (a_parent, .inl (cI, 248, .inl f_parent)), (a_past, .inl (cL, 61, .inr (.inl o.2.2.1))), (a_score, .inl (cI, 61, .inl o.2.2.2.1)), (a_hash, .inl (cI, 62, .inl f_hash)), (a_selected, .inl (cI, 61, .inl o.2.2.2.2.1)), (a_blues, .inl (cL, 61, .inr (.inl o.2.2.2.2.2.1))), (a_merged, .inl (cI, 64, .inl o.2.2.2.2.2.2.1)), (a_order, .inl (cI, 64, .inl o.2.2.2.2.2.2.2.1)), (a_accepted, .inl (cZ, 40, .inl o.2.2.2.2.2.2.2.2.1)), (a_free, .inl (cZ, 80, .inl o.2.2.2.2.2.2.2.2.2.1)), (a_coin, .inl (cZ, 60, .inl o.2.2.2.2.2.2.2.2.2.2.1)), (a_holds, .inl (cI, 62, .inl f_holds)), (a_held, .inl (cI, 186, .inl f_held)), (a_inputs, .inl (cI, 41, .inl f_inputs)), (a_source, .inl (cI, 82, .inl f_source)), (a_index, .inl (cI, 82, .inl f_index)), (a_lock, .inl (cI, 82, .inl f_lock)), (a_blockLock, .inl (cI, 62, .inl f_blockLock)), (a_secret, .inl (cI, 82, .inl f_secret)), (a_amount, .inl (cI, 82, .inl f_amount)), (a_worth, .inl (cI, 60, .inl o.2.2.2.2.2.2.2.2.2.2.2.1)), (a_outputs, .inl (cI, 41, .inl f_outputs)), (a_pool, .inl (cI, 8, .inl o.2.2.2.2.2.2.2.2.2.2.2.2))]) (fun (o : Int32 × Int32 × (Nat → Int64) × (Nat → Int32) × (Nat → Int32) × (Nat → Int64) × (Nat → Int32) × (Nat → Int32) × (Nat → Int32) × (Nat → Int32) × (Nat → Int32) × (Nat → Int32) × (Nat → Int32)) => none) o) 0 0 (mo_A [(a_this, .inr (7, [.int v_limit, .int v_made, .ref a_inputs, .ref a_outputs, .ref a_source, .ref a_index, .ref a_secret, .ref a_lock, .ref a_amount, .ref a_id, .int v_blocks, .ref a_parents, .ref a_parent, .ref a_holds, .ref a_held, .ref a_blockLock, .ref a_hash, .long v_dag, .ref a_past, .ref a_blues, .ref a_score, .ref a_selected, .int v_orphans, .ref a_orphan, .int v_pooled, .ref a_pool, .int v_places, .ref a_order, .ref a_merged, .ref a_accepted, .ref a_free, .ref a_coin, .ref a_worth])), (a_parents, .inl (cI, 62, .inl f_parents)), (a_parent, .inl (cI, 248, .inl f_parent)), (a_past, .inl (cL, 61, .inr (.inl f_past))), (a_score, .inl (cI, 61, .inl f_score)), (a_hash, .inl (cI, 62, .inl f_hash)), (a_selected, .inl (cI, 61, .inl f_selected)), (a_blues, .inl (cL, 61, .inr (.inl f_blues))), (a_merged, .inl (cI, 64, .inl f_merged)), (a_order, .inl (cI, 64, .inl f_order)), (a_accepted, .inl (cZ, 40, .inl f_accepted)), (a_free, .inl (cZ, 80, .inl f_free)), (a_coin, .inl (cZ, 60, .inl f_coin)), (a_holds, .inl (cI, 62, .inl f_holds)), (a_held, .inl (cI, 186, .inl f_held)), (a_inputs, .inl (cI, 41, .inl f_inputs)), (a_source, .inl (cI, 82, .inl f_source)), (a_index, .inl (cI, 82, .inl f_index)), (a_lock, .inl (cI, 82, .inl f_lock)), (a_blockLock, .inl (cI, 62, .inl f_blockLock)), (a_secret, .inl (cI, 82, .inl f_secret)), (a_amount, .inl (cI, 82, .inl f_amount)), (a_worth, .inl (cI, 60, .inl f_worth)), (a_outputs, .inl (cI, 41, .inl f_outputs)), (a_pool, .inl (cI, 8, .inl f_pool))]) := by
  refine mo_start (by decide) (Nat.le_of_ble_eq_true rfl) ?_
  intro p e s m args below meth c hx hb hr hlocks hml hown hw hv ls hl Q hQ
  obtain ⟨hP, hK, hN, hD0⟩ := hv
  have hl : lv_has ls 4 [(0, .ref a_this)] := hl
  obtain ⟨A, hA2⟩ : ∃ A, A = mo_A [(a_this, .inr (7, [.int v_limit, .int v_made, .ref a_inputs, .ref a_outputs, .ref a_source, .ref a_index, .ref a_secret, .ref a_lock, .ref a_amount, .ref a_id, .int v_blocks, .ref a_parents, .ref a_parent, .ref a_holds, .ref a_held, .ref a_blockLock, .ref a_hash, .long v_dag, .ref a_past, .ref a_blues, .ref a_score, .ref a_selected, .int v_orphans, .ref a_orphan, .int v_pooled, .ref a_pool, .int v_places, .ref a_order, .ref a_merged, .ref a_accepted, .ref a_free, .ref a_coin, .ref a_worth])), (a_parents, .inl (cI, 62, .inl f_parents)), (a_parent, .inl (cI, 248, .inl f_parent)), (a_past, .inl (cL, 61, .inr (.inl f_past))), (a_score, .inl (cI, 61, .inl f_score)), (a_hash, .inl (cI, 62, .inl f_hash)), (a_selected, .inl (cI, 61, .inl f_selected)), (a_blues, .inl (cL, 61, .inr (.inl f_blues))), (a_merged, .inl (cI, 64, .inl f_merged)), (a_order, .inl (cI, 64, .inl f_order)), (a_accepted, .inl (cZ, 40, .inl f_accepted)), (a_free, .inl (cZ, 80, .inl f_free)), (a_coin, .inl (cZ, 60, .inl f_coin)), (a_holds, .inl (cI, 62, .inl f_holds)), (a_held, .inl (cI, 186, .inl f_held)), (a_inputs, .inl (cI, 41, .inl f_inputs)), (a_source, .inl (cI, 82, .inl f_source)), (a_index, .inl (cI, 82, .inl f_index)), (a_lock, .inl (cI, 82, .inl f_lock)), (a_blockLock, .inl (cI, 62, .inl f_blockLock)), (a_secret, .inl (cI, 82, .inl f_secret)), (a_amount, .inl (cI, 82, .inl f_amount)), (a_worth, .inl (cI, 60, .inl f_worth)), (a_outputs, .inl (cI, 41, .inl f_outputs)), (a_pool, .inl (cI, 8, .inl f_pool))] := ⟨_, rfl⟩
  have hD : va_D A [(a_this, .inr (7, [.int v_limit, .int v_made, .ref a_inputs, .ref a_outputs, .ref a_source, .ref a_index, .ref a_secret, .ref a_lock, .ref a_amount, .ref a_id, .int v_blocks, .ref a_parents, .ref a_parent, .ref a_holds, .ref a_held, .ref a_blockLock, .ref a_hash, .long v_dag, .ref a_past, .ref a_blues, .ref a_score, .ref a_selected, .int v_orphans, .ref a_orphan, .int v_pooled, .ref a_pool, .int v_places, .ref a_order, .ref a_merged, .ref a_accepted, .ref a_free, .ref a_coin, .ref a_worth])), (a_parents, .inl (cI, 62, .inl f_parents)), (a_parent, .inl (cI, 248, .inl f_parent)), (a_past, .inl (cL, 61, .inr (.inl f_past))), (a_score, .inl (cI, 61, .inl f_score)), (a_hash, .inl (cI, 62, .inl f_hash)), (a_selected, .inl (cI, 61, .inl f_selected)), (a_blues, .inl (cL, 61, .inr (.inl f_blues))), (a_merged, .inl (cI, 64, .inl f_merged)), (a_order, .inl (cI, 64, .inl f_order)), (a_accepted, .inl (cZ, 40, .inl f_accepted)), (a_free, .inl (cZ, 80, .inl f_free)), (a_coin, .inl (cZ, 60, .inl f_coin)), (a_holds, .inl (cI, 62, .inl f_holds)), (a_held, .inl (cI, 186, .inl f_held)), (a_inputs, .inl (cI, 41, .inl f_inputs)), (a_source, .inl (cI, 82, .inl f_source)), (a_index, .inl (cI, 82, .inl f_index)), (a_lock, .inl (cI, 82, .inl f_lock)), (a_blockLock, .inl (cI, 62, .inl f_blockLock)), (a_secret, .inl (cI, 82, .inl f_secret)), (a_amount, .inl (cI, 82, .inl f_amount)), (a_worth, .inl (cI, 60, .inl f_worth)), (a_outputs, .inl (cI, 41, .inl f_outputs)), (a_pool, .inl (cI, 8, .inl f_pool))] := hA2 ▸ mo_self hD0
  have hS : va_S A s.heap s.heap [] := va_S.rf
  unfold m_mm_settle at h
  refine lv_aload_n (pc := 0) hx hb d_mm_settle_0 rfl (lv_at hl 0 rfl) ?_
  obtain ⟨⟨r1_0, r1_1, r1_2, r1_3, r1_4, r1_5, r1_6, r1_7, r1_8, r1_9, r1_10⟩, hr1, h⟩ := mo_bd_e h
  try dsimp only at h
  refine mo_mV (pc := 1) (As := []) (rest := []) (st1 := []) ⟨hx, hb, hml, hown, hw⟩ (c_mm_look l D cI cL cZ a_this a_parents a_parent a_past a_score a_hash a_selected a_blues a_merged a_order a_accepted a_free a_coin a_holds a_held a_inputs a_source a_index a_lock a_blockLock a_secret a_amount a_worth a_outputs a_id a_orphan a_pool v_limit v_made v_blocks v_dag v_orphans v_pooled v_places f_parents f_parent f_past f_score f_hash f_selected f_blues f_merged f_order f_accepted f_free f_coin f_holds f_held f_inputs f_source f_index f_lock f_blockLock f_secret f_amount f_worth f_outputs (r1_0, r1_1, r1_2, r1_3, r1_4, r1_5, r1_6, r1_7, r1_8, r1_9, r1_10) hr1) (kV_mm_106 hw ⟨by decide, by decide⟩) hP hD hS hK hN [0, 1, 2, 3, 4, 5, 6, 7, 8, 9, 10, 11, 12, 13, 14, 15, 16, 17, 18, 19, 20, 21, 22, 23] [some 0, some 1, some 2, some 3, some 4, some 5, some 6, some 7, some 8, some 9, some 10, some 11, some 12, some 13, some 14, some 15, some 16, some 17, some 18, some 19, some 20, some 21, some 22, some 23, none] rfl rfl rfl rfl rfl rfl rfl hl.1 rfl rfl d_mm_settle_1 rfl (fun H locs hP hD hS => ?_)
  have hP : va_P D cl [(a_this, .inr (7, [.int v_limit, .int v_made, .ref a_inputs, .ref a_outputs, .ref a_source, .ref a_index, .ref a_secret, .ref a_lock, .ref a_amount, .ref a_id, .int v_blocks, .ref a_parents, .ref a_parent, .ref a_holds, .ref a_held, .ref a_blockLock, .ref a_hash, .long v_dag, .ref a_past, .ref a_blues, .ref a_score, .ref a_selected, .int v_orphans, .ref a_orphan, .int v_pooled, .ref a_pool, .int r1_0, .ref a_order, .ref a_merged, .ref a_accepted, .ref a_free, .ref a_coin, .ref a_worth])), (a_parents, .inl (cI, 62, .inl f_parents)), (a_parent, .inl (cI, 248, .inl f_parent)), (a_past, .inl (cL, 61, .inr (.inl r1_1))), (a_score, .inl (cI, 61, .inl r1_2)), (a_hash, .inl (cI, 62, .inl f_hash)), (a_selected, .inl (cI, 61, .inl r1_3)), (a_blues, .inl (cL, 61, .inr (.inl r1_4))), (a_merged, .inl (cI, 64, .inl r1_5)), (a_order, .inl (cI, 64, .inl r1_6)), (a_accepted, .inl (cZ, 40, .inl r1_7)), (a_free, .inl (cZ, 80, .inl r1_8)), (a_coin, .inl (cZ, 60, .inl r1_9)), (a_holds, .inl (cI, 62, .inl f_holds)), (a_held, .inl (cI, 186, .inl f_held)), (a_inputs, .inl (cI, 41, .inl f_inputs)), (a_source, .inl (cI, 82, .inl f_source)), (a_index, .inl (cI, 82, .inl f_index)), (a_lock, .inl (cI, 82, .inl f_lock)), (a_blockLock, .inl (cI, 62, .inl f_blockLock)), (a_secret, .inl (cI, 82, .inl f_secret)), (a_amount, .inl (cI, 82, .inl f_amount)), (a_worth, .inl (cI, 60, .inl r1_10)), (a_outputs, .inl (cI, 41, .inl f_outputs)), (a_pool, .inl (cI, 8, .inl f_pool))] H := hP
  have hD : va_D A [(a_this, .inr (7, [.int v_limit, .int v_made, .ref a_inputs, .ref a_outputs, .ref a_source, .ref a_index, .ref a_secret, .ref a_lock, .ref a_amount, .ref a_id, .int v_blocks, .ref a_parents, .ref a_parent, .ref a_holds, .ref a_held, .ref a_blockLock, .ref a_hash, .long v_dag, .ref a_past, .ref a_blues, .ref a_score, .ref a_selected, .int v_orphans, .ref a_orphan, .int v_pooled, .ref a_pool, .int r1_0, .ref a_order, .ref a_merged, .ref a_accepted, .ref a_free, .ref a_coin, .ref a_worth])), (a_parents, .inl (cI, 62, .inl f_parents)), (a_parent, .inl (cI, 248, .inl f_parent)), (a_past, .inl (cL, 61, .inr (.inl r1_1))), (a_score, .inl (cI, 61, .inl r1_2)), (a_hash, .inl (cI, 62, .inl f_hash)), (a_selected, .inl (cI, 61, .inl r1_3)), (a_blues, .inl (cL, 61, .inr (.inl r1_4))), (a_merged, .inl (cI, 64, .inl r1_5)), (a_order, .inl (cI, 64, .inl r1_6)), (a_accepted, .inl (cZ, 40, .inl r1_7)), (a_free, .inl (cZ, 80, .inl r1_8)), (a_coin, .inl (cZ, 60, .inl r1_9)), (a_holds, .inl (cI, 62, .inl f_holds)), (a_held, .inl (cI, 186, .inl f_held)), (a_inputs, .inl (cI, 41, .inl f_inputs)), (a_source, .inl (cI, 82, .inl f_source)), (a_index, .inl (cI, 82, .inl f_index)), (a_lock, .inl (cI, 82, .inl f_lock)), (a_blockLock, .inl (cI, 62, .inl f_blockLock)), (a_secret, .inl (cI, 82, .inl f_secret)), (a_amount, .inl (cI, 82, .inl f_amount)), (a_worth, .inl (cI, 60, .inl r1_10)), (a_outputs, .inl (cI, 41, .inl f_outputs)), (a_pool, .inl (cI, 8, .inl f_pool))] := hD
  refine lv_iconst (pc := 4) (v := 0) hx hb d_mm_settle_4 (by decide) ?_
  refine lv_istore_n (pc := 5) (lv' := [(1, .int 0), (0, .ref a_this)]) hx hb d_mm_settle_5 rfl hl (by decide) rfl (fun ls hl => ?_)
  refine lv_iconst (pc := 6) (v := 0) hx hb d_mm_settle_6 (by decide) ?_
  refine lv_istore_n (pc := 7) (lv' := [(2, .int 0), (1, .int 0), (0, .ref a_this)]) hx hb d_mm_settle_7 rfl hl (by decide) rfl (fun ls hl => ?_)
  obtain ⟨w8, K8, eK8, hy8, hr8⟩ := mo_bd_k h
  have E8 : ∀ (y8_1 : Int32) (y8_f_accepted : Nat → Int32) (y8_f_free : Nat → Int32) (y8_f_coin : Nat → Int32) (y8_f_pool : Nat → Int32) (ls : Array Slot) (H : Heap) (locs : List Loc) (hP : va_P D cl [(a_this, .inr (7, [.int v_limit, .int v_made, .ref a_inputs, .ref a_outputs, .ref a_source, .ref a_index, .ref a_secret, .ref a_lock, .ref a_amount, .ref a_id, .int v_blocks, .ref a_parents, .ref a_parent, .ref a_holds, .ref a_held, .ref a_blockLock, .ref a_hash, .long v_dag, .ref a_past, .ref a_blues, .ref a_score, .ref a_selected, .int v_orphans, .ref a_orphan, .int v_pooled, .ref a_pool, .int r1_0, .ref a_order, .ref a_merged, .ref a_accepted, .ref a_free, .ref a_coin, .ref a_worth])), (a_parents, .inl (cI, 62, .inl f_parents)), (a_parent, .inl (cI, 248, .inl f_parent)), (a_past, .inl (cL, 61, .inr (.inl r1_1))), (a_score, .inl (cI, 61, .inl r1_2)), (a_hash, .inl (cI, 62, .inl f_hash)), (a_selected, .inl (cI, 61, .inl r1_3)), (a_blues, .inl (cL, 61, .inr (.inl r1_4))), (a_merged, .inl (cI, 64, .inl r1_5)), (a_order, .inl (cI, 64, .inl r1_6)), (a_accepted, .inl (cZ, 40, .inl y8_f_accepted)), (a_free, .inl (cZ, 80, .inl y8_f_free)), (a_coin, .inl (cZ, 60, .inl y8_f_coin)), (a_holds, .inl (cI, 62, .inl f_holds)), (a_held, .inl (cI, 186, .inl f_held)), (a_inputs, .inl (cI, 41, .inl f_inputs)), (a_source, .inl (cI, 82, .inl f_source)), (a_index, .inl (cI, 82, .inl f_index)), (a_lock, .inl (cI, 82, .inl f_lock)), (a_blockLock, .inl (cI, 62, .inl f_blockLock)), (a_secret, .inl (cI, 82, .inl f_secret)), (a_amount, .inl (cI, 82, .inl f_amount)), (a_worth, .inl (cI, 60, .inl r1_10)), (a_outputs, .inl (cI, 41, .inl f_outputs)), (a_pool, .inl (cI, 8, .inl y8_f_pool))] H) (hD : va_D A [(a_this, .inr (7, [.int v_limit, .int v_made, .ref a_inputs, .ref a_outputs, .ref a_source, .ref a_index, .ref a_secret, .ref a_lock, .ref a_amount, .ref a_id, .int v_blocks, .ref a_parents, .ref a_parent, .ref a_holds, .ref a_held, .ref a_blockLock, .ref a_hash, .long v_dag, .ref a_past, .ref a_blues, .ref a_score, .ref a_selected, .int v_orphans, .ref a_orphan, .int v_pooled, .ref a_pool, .int r1_0, .ref a_order, .ref a_merged, .ref a_accepted, .ref a_free, .ref a_coin, .ref a_worth])), (a_parents, .inl (cI, 62, .inl f_parents)), (a_parent, .inl (cI, 248, .inl f_parent)), (a_past, .inl (cL, 61, .inr (.inl r1_1))), (a_score, .inl (cI, 61, .inl r1_2)), (a_hash, .inl (cI, 62, .inl f_hash)), (a_selected, .inl (cI, 61, .inl r1_3)), (a_blues, .inl (cL, 61, .inr (.inl r1_4))), (a_merged, .inl (cI, 64, .inl r1_5)), (a_order, .inl (cI, 64, .inl r1_6)), (a_accepted, .inl (cZ, 40, .inl y8_f_accepted)), (a_free, .inl (cZ, 80, .inl y8_f_free)), (a_coin, .inl (cZ, 60, .inl y8_f_coin)), (a_holds, .inl (cI, 62, .inl f_holds)), (a_held, .inl (cI, 186, .inl f_held)), (a_inputs, .inl (cI, 41, .inl f_inputs)), (a_source, .inl (cI, 82, .inl f_source)), (a_index, .inl (cI, 82, .inl f_index)), (a_lock, .inl (cI, 82, .inl f_lock)), (a_blockLock, .inl (cI, 62, .inl f_blockLock)), (a_secret, .inl (cI, 82, .inl f_secret)), (a_amount, .inl (cI, 82, .inl f_amount)), (a_worth, .inl (cI, 60, .inl r1_10)), (a_outputs, .inl (cI, 41, .inl f_outputs)), (a_pool, .inl (cI, 8, .inl y8_f_pool))]) (hS : va_S A s.heap H locs) (hl : lv_has ls 4 [(0, .ref a_this), (1, .int y8_1)]) (h : K8 (y8_1, y8_f_accepted, y8_f_free, y8_f_coin, y8_f_pool) = some o), W p l e rm_mm_settle s m args below meth c H locs 0 0 Q (F0 m 64 ls []) := by
    intro y8_1 y8_f_accepted y8_f_free y8_f_coin y8_f_pool ls H locs hP hD hS hl h
    have h := mo_a1 eK8 h
    try dsimp only at h
    refine lv_aload_n (pc := 64) hx hb d_mm_settle_64 rfl (lv_at hl 0 rfl) ?_
    refine lv_iload_n (pc := 65) hx hb d_mm_settle_65 rfl (lv_at hl 1 rfl) ?_
    refine pf_mm_183 (pc := 66) hx hb hw hN hown hK hP hD hS 0 rfl (Nat.le_of_ble_eq_true rfl) d_mm_settle_66 (fun H locs hP hD hS => ?_)
    have hP : va_P D cl [(a_this, .inr (7, [.int v_limit, .int v_made, .ref a_inputs, .ref a_outputs, .ref a_source, .ref a_index, .ref a_secret, .ref a_lock, .ref a_amount, .ref a_id, .int v_blocks, .ref a_parents, .ref a_parent, .ref a_holds, .ref a_held, .ref a_blockLock, .ref a_hash, .long v_dag, .ref a_past, .ref a_blues, .ref a_score, .ref a_selected, .int v_orphans, .ref a_orphan, .int y8_1, .ref a_pool, .int r1_0, .ref a_order, .ref a_merged, .ref a_accepted, .ref a_free, .ref a_coin, .ref a_worth])), (a_parents, .inl (cI, 62, .inl f_parents)), (a_parent, .inl (cI, 248, .inl f_parent)), (a_past, .inl (cL, 61, .inr (.inl r1_1))), (a_score, .inl (cI, 61, .inl r1_2)), (a_hash, .inl (cI, 62, .inl f_hash)), (a_selected, .inl (cI, 61, .inl r1_3)), (a_blues, .inl (cL, 61, .inr (.inl r1_4))), (a_merged, .inl (cI, 64, .inl r1_5)), (a_order, .inl (cI, 64, .inl r1_6)), (a_accepted, .inl (cZ, 40, .inl y8_f_accepted)), (a_free, .inl (cZ, 80, .inl y8_f_free)), (a_coin, .inl (cZ, 60, .inl y8_f_coin)), (a_holds, .inl (cI, 62, .inl f_holds)), (a_held, .inl (cI, 186, .inl f_held)), (a_inputs, .inl (cI, 41, .inl f_inputs)), (a_source, .inl (cI, 82, .inl f_source)), (a_index, .inl (cI, 82, .inl f_index)), (a_lock, .inl (cI, 82, .inl f_lock)), (a_blockLock, .inl (cI, 62, .inl f_blockLock)), (a_secret, .inl (cI, 82, .inl f_secret)), (a_amount, .inl (cI, 82, .inl f_amount)), (a_worth, .inl (cI, 60, .inl r1_10)), (a_outputs, .inl (cI, 41, .inl f_outputs)), (a_pool, .inl (cI, 8, .inl y8_f_pool))] H := hP
    have hD : va_D A [(a_this, .inr (7, [.int v_limit, .int v_made, .ref a_inputs, .ref a_outputs, .ref a_source, .ref a_index, .ref a_secret, .ref a_lock, .ref a_amount, .ref a_id, .int v_blocks, .ref a_parents, .ref a_parent, .ref a_holds, .ref a_held, .ref a_blockLock, .ref a_hash, .long v_dag, .ref a_past, .ref a_blues, .ref a_score, .ref a_selected, .int v_orphans, .ref a_orphan, .int y8_1, .ref a_pool, .int r1_0, .ref a_order, .ref a_merged, .ref a_accepted, .ref a_free, .ref a_coin, .ref a_worth])), (a_parents, .inl (cI, 62, .inl f_parents)), (a_parent, .inl (cI, 248, .inl f_parent)), (a_past, .inl (cL, 61, .inr (.inl r1_1))), (a_score, .inl (cI, 61, .inl r1_2)), (a_hash, .inl (cI, 62, .inl f_hash)), (a_selected, .inl (cI, 61, .inl r1_3)), (a_blues, .inl (cL, 61, .inr (.inl r1_4))), (a_merged, .inl (cI, 64, .inl r1_5)), (a_order, .inl (cI, 64, .inl r1_6)), (a_accepted, .inl (cZ, 40, .inl y8_f_accepted)), (a_free, .inl (cZ, 80, .inl y8_f_free)), (a_coin, .inl (cZ, 60, .inl y8_f_coin)), (a_holds, .inl (cI, 62, .inl f_holds)), (a_held, .inl (cI, 186, .inl f_held)), (a_inputs, .inl (cI, 41, .inl f_inputs)), (a_source, .inl (cI, 82, .inl f_source)), (a_index, .inl (cI, 82, .inl f_index)), (a_lock, .inl (cI, 82, .inl f_lock)), (a_blockLock, .inl (cI, 62, .inl f_blockLock)), (a_secret, .inl (cI, 82, .inl f_secret)), (a_amount, .inl (cI, 82, .inl f_amount)), (a_worth, .inl (cI, 60, .inl r1_10)), (a_outputs, .inl (cI, 41, .inl f_outputs)), (a_pool, .inl (cI, 8, .inl y8_f_pool))] := hD
    exact mo_retVm hx hb hr hlocks hQ hA2 h hP hS d_mm_settle_69 rfl
  exact mo_lp_i (step := (m_mm_settle_L8 v_pooled f_inputs f_source f_index f_lock f_blockLock f_secret f_amount f_outputs r1_10)) (o := w8) (fun (x : Int32 × Int32 × (Nat → Int32) × (Nat → Int32) × (Nat → Int32) × (Nat → Int32)) => match x with | (z8_1, z8_2, z8_f_accepted, z8_f_free, z8_f_coin, z8_f_pool) => ∀ (ls : Array Slot) (H : Heap) (locs : List Loc) (hP : va_P D cl [(a_this, .inr (7, [.int v_limit, .int v_made, .ref a_inputs, .ref a_outputs, .ref a_source, .ref a_index, .ref a_secret, .ref a_lock, .ref a_amount, .ref a_id, .int v_blocks, .ref a_parents, .ref a_parent, .ref a_holds, .ref a_held, .ref a_blockLock, .ref a_hash, .long v_dag, .ref a_past, .ref a_blues, .ref a_score, .ref a_selected, .int v_orphans, .ref a_orphan, .int v_pooled, .ref a_pool, .int r1_0, .ref a_order, .ref a_merged, .ref a_accepted, .ref a_free, .ref a_coin, .ref a_worth])), (a_parents, .inl (cI, 62, .inl f_parents)), (a_parent, .inl (cI, 248, .inl f_parent)), (a_past, .inl (cL, 61, .inr (.inl r1_1))), (a_score, .inl (cI, 61, .inl r1_2)), (a_hash, .inl (cI, 62, .inl f_hash)), (a_selected, .inl (cI, 61, .inl r1_3)), (a_blues, .inl (cL, 61, .inr (.inl r1_4))), (a_merged, .inl (cI, 64, .inl r1_5)), (a_order, .inl (cI, 64, .inl r1_6)), (a_accepted, .inl (cZ, 40, .inl z8_f_accepted)), (a_free, .inl (cZ, 80, .inl z8_f_free)), (a_coin, .inl (cZ, 60, .inl z8_f_coin)), (a_holds, .inl (cI, 62, .inl f_holds)), (a_held, .inl (cI, 186, .inl f_held)), (a_inputs, .inl (cI, 41, .inl f_inputs)), (a_source, .inl (cI, 82, .inl f_source)), (a_index, .inl (cI, 82, .inl f_index)), (a_lock, .inl (cI, 82, .inl f_lock)), (a_blockLock, .inl (cI, 62, .inl f_blockLock)), (a_secret, .inl (cI, 82, .inl f_secret)), (a_amount, .inl (cI, 82, .inl f_amount)), (a_worth, .inl (cI, 60, .inl r1_10)), (a_outputs, .inl (cI, 41, .inl f_outputs)), (a_pool, .inl (cI, 8, .inl z8_f_pool))] H) (hD : va_D A [(a_this, .inr (7, [.int v_limit, .int v_made, .ref a_inputs, .ref a_outputs, .ref a_source, .ref a_index, .ref a_secret, .ref a_lock, .ref a_amount, .ref a_id, .int v_blocks, .ref a_parents, .ref a_parent, .ref a_holds, .ref a_held, .ref a_blockLock, .ref a_hash, .long v_dag, .ref a_past, .ref a_blues, .ref a_score, .ref a_selected, .int v_orphans, .ref a_orphan, .int v_pooled, .ref a_pool, .int r1_0, .ref a_order, .ref a_merged, .ref a_accepted, .ref a_free, .ref a_coin, .ref a_worth])), (a_parents, .inl (cI, 62, .inl f_parents)), (a_parent, .inl (cI, 248, .inl f_parent)), (a_past, .inl (cL, 61, .inr (.inl r1_1))), (a_score, .inl (cI, 61, .inl r1_2)), (a_hash, .inl (cI, 62, .inl f_hash)), (a_selected, .inl (cI, 61, .inl r1_3)), (a_blues, .inl (cL, 61, .inr (.inl r1_4))), (a_merged, .inl (cI, 64, .inl r1_5)), (a_order, .inl (cI, 64, .inl r1_6)), (a_accepted, .inl (cZ, 40, .inl z8_f_accepted)), (a_free, .inl (cZ, 80, .inl z8_f_free)), (a_coin, .inl (cZ, 60, .inl z8_f_coin)), (a_holds, .inl (cI, 62, .inl f_holds)), (a_held, .inl (cI, 186, .inl f_held)), (a_inputs, .inl (cI, 41, .inl f_inputs)), (a_source, .inl (cI, 82, .inl f_source)), (a_index, .inl (cI, 82, .inl f_index)), (a_lock, .inl (cI, 82, .inl f_lock)), (a_blockLock, .inl (cI, 62, .inl f_blockLock)), (a_secret, .inl (cI, 82, .inl f_secret)), (a_amount, .inl (cI, 82, .inl f_amount)), (a_worth, .inl (cI, 60, .inl r1_10)), (a_outputs, .inl (cI, 41, .inl f_outputs)), (a_pool, .inl (cI, 8, .inl z8_f_pool))]) (hS : va_S A s.heap H locs) (hl : lv_has ls 4 [(0, .ref a_this), (1, .int z8_1), (2, .int z8_2)]), W p l e rm_mm_settle s m args below meth c H locs 0 0 Q (F0 m 8 ls [])) (by
      rintro bk8 hb8 ⟨z8_1, z8_2, z8_f_accepted, z8_f_free, z8_f_coin, z8_f_pool⟩ h ls H locs hP hD hS hl
      unfold m_mm_settle_L8 at h
      try dsimp only at h
      refine lv_iload_n (pc := 8) hx hb d_mm_settle_8 rfl (lv_at hl 2 rfl) ?_
      refine lv_aload_n (pc := 9) hx hb d_mm_settle_9 rfl (lv_at hl 0 rfl) ?_
      refine gf_mm_183 (pc := 10) hx hb hw hN hown hK hP 0 rfl rfl d_mm_settle_10 ?_
      refine lv_icmp_ge (pc := 13) (tgt := 64) hx hb d_mm_settle_13 rfl (fun hc => ?_) (fun hc => ?_)
      · have h := mo_t hc h
        exact E8 z8_1 z8_f_accepted z8_f_free z8_f_coin z8_f_pool _ _ _ hP hD hS (lv_sub hl [0, 1] rfl) (by rw [Option.some.inj h]; exact hr8)
      · have h := mo_f hc h
        refine lv_aload_n (pc := 16) hx hb d_mm_settle_16 rfl (lv_at hl 0 rfl) ?_
        refine lv_aload_n (pc := 17) hx hb d_mm_settle_17 rfl (lv_at hl 0 rfl) ?_
        refine gf_mm_76 (pc := 18) hx hb hw hN hown hK hP 0 rfl rfl d_mm_settle_18 ?_
        refine lv_iload_n (pc := 21) hx hb d_mm_settle_21 rfl (lv_at hl 2 rfl) ?_
        obtain ⟨v22, hi22, e22, h⟩ := mo_rI_e h
        refine mo_iald (pc := 22) hx hb hK hP 24 0 rfl rfl hi22 e22 d_mm_settle_22 ?_
        obtain ⟨r23, hr23, h⟩ := mo_bd_e h
        refine mo_rV (pc := 23) (As := [.int v22]) (rest := []) (st1 := [.int r23]) ⟨hx, hb, hml, hown, hw⟩ (c_mm_fits l D cI cL cZ a_this a_accepted a_inputs a_source a_index a_free a_coin a_lock a_blockLock a_secret a_amount a_worth a_outputs a_id a_parents a_parent a_holds a_held a_hash a_past a_blues a_score a_selected a_orphan a_pool a_order a_merged v_limit v_made v_blocks v_dag v_orphans v_pooled r1_0 z8_f_accepted f_inputs f_source f_index z8_f_free z8_f_coin f_lock f_blockLock f_secret f_amount r1_10 f_outputs v22 r23 hr23) (kV_mm_165 hw ⟨by decide, by decide⟩) (hP.sub [0, 10, 15, 16, 17, 11, 12, 18, 19, 20, 21, 22, 23] rfl) hK hN rfl rfl rfl hl.1 rfl rfl d_mm_settle_23 rfl ?_
        obtain ⟨j58, ej58, h⟩ := mo_jn_e h
        have B58 : ∀ (y58_1 : Int32) (y58_f_accepted : Nat → Int32) (y58_f_free : Nat → Int32) (y58_f_coin : Nat → Int32) (y58_f_pool : Nat → Int32) (ls : Array Slot) (H : Heap) (locs : List Loc) (hP : va_P D cl [(a_this, .inr (7, [.int v_limit, .int v_made, .ref a_inputs, .ref a_outputs, .ref a_source, .ref a_index, .ref a_secret, .ref a_lock, .ref a_amount, .ref a_id, .int v_blocks, .ref a_parents, .ref a_parent, .ref a_holds, .ref a_held, .ref a_blockLock, .ref a_hash, .long v_dag, .ref a_past, .ref a_blues, .ref a_score, .ref a_selected, .int v_orphans, .ref a_orphan, .int v_pooled, .ref a_pool, .int r1_0, .ref a_order, .ref a_merged, .ref a_accepted, .ref a_free, .ref a_coin, .ref a_worth])), (a_parents, .inl (cI, 62, .inl f_parents)), (a_parent, .inl (cI, 248, .inl f_parent)), (a_past, .inl (cL, 61, .inr (.inl r1_1))), (a_score, .inl (cI, 61, .inl r1_2)), (a_hash, .inl (cI, 62, .inl f_hash)), (a_selected, .inl (cI, 61, .inl r1_3)), (a_blues, .inl (cL, 61, .inr (.inl r1_4))), (a_merged, .inl (cI, 64, .inl r1_5)), (a_order, .inl (cI, 64, .inl r1_6)), (a_accepted, .inl (cZ, 40, .inl y58_f_accepted)), (a_free, .inl (cZ, 80, .inl y58_f_free)), (a_coin, .inl (cZ, 60, .inl y58_f_coin)), (a_holds, .inl (cI, 62, .inl f_holds)), (a_held, .inl (cI, 186, .inl f_held)), (a_inputs, .inl (cI, 41, .inl f_inputs)), (a_source, .inl (cI, 82, .inl f_source)), (a_index, .inl (cI, 82, .inl f_index)), (a_lock, .inl (cI, 82, .inl f_lock)), (a_blockLock, .inl (cI, 62, .inl f_blockLock)), (a_secret, .inl (cI, 82, .inl f_secret)), (a_amount, .inl (cI, 82, .inl f_amount)), (a_worth, .inl (cI, 60, .inl r1_10)), (a_outputs, .inl (cI, 41, .inl f_outputs)), (a_pool, .inl (cI, 8, .inl y58_f_pool))] H) (hD : va_D A [(a_this, .inr (7, [.int v_limit, .int v_made, .ref a_inputs, .ref a_outputs, .ref a_source, .ref a_index, .ref a_secret, .ref a_lock, .ref a_amount, .ref a_id, .int v_blocks, .ref a_parents, .ref a_parent, .ref a_holds, .ref a_held, .ref a_blockLock, .ref a_hash, .long v_dag, .ref a_past, .ref a_blues, .ref a_score, .ref a_selected, .int v_orphans, .ref a_orphan, .int v_pooled, .ref a_pool, .int r1_0, .ref a_order, .ref a_merged, .ref a_accepted, .ref a_free, .ref a_coin, .ref a_worth])), (a_parents, .inl (cI, 62, .inl f_parents)), (a_parent, .inl (cI, 248, .inl f_parent)), (a_past, .inl (cL, 61, .inr (.inl r1_1))), (a_score, .inl (cI, 61, .inl r1_2)), (a_hash, .inl (cI, 62, .inl f_hash)), (a_selected, .inl (cI, 61, .inl r1_3)), (a_blues, .inl (cL, 61, .inr (.inl r1_4))), (a_merged, .inl (cI, 64, .inl r1_5)), (a_order, .inl (cI, 64, .inl r1_6)), (a_accepted, .inl (cZ, 40, .inl y58_f_accepted)), (a_free, .inl (cZ, 80, .inl y58_f_free)), (a_coin, .inl (cZ, 60, .inl y58_f_coin)), (a_holds, .inl (cI, 62, .inl f_holds)), (a_held, .inl (cI, 186, .inl f_held)), (a_inputs, .inl (cI, 41, .inl f_inputs)), (a_source, .inl (cI, 82, .inl f_source)), (a_index, .inl (cI, 82, .inl f_index)), (a_lock, .inl (cI, 82, .inl f_lock)), (a_blockLock, .inl (cI, 62, .inl f_blockLock)), (a_secret, .inl (cI, 82, .inl f_secret)), (a_amount, .inl (cI, 82, .inl f_amount)), (a_worth, .inl (cI, 60, .inl r1_10)), (a_outputs, .inl (cI, 41, .inl f_outputs)), (a_pool, .inl (cI, 8, .inl y58_f_pool))]) (hS : va_S A s.heap H locs) (hl : lv_has ls 4 [(0, .ref a_this), (1, .int y58_1), (2, .int z8_2)]) (h : j58 y58_1 y58_f_accepted y58_f_free y58_f_coin y58_f_pool = some w8), W p l e rm_mm_settle s m args below meth c H locs 0 0 Q (F0 m 58 ls []) := by
          intro y58_1 y58_f_accepted y58_f_free y58_f_coin y58_f_pool ls H locs hP hD hS hl h
          have h := mo_a5 ej58 h
          refine lv_iinc (pc := 58) (k := 2) (v := z8_2 + 1) (lv' := [(2, .int (z8_2 + 1)), (0, .ref a_this), (1, .int y58_1)]) hx hb d_mm_settle_58 hl rfl (mo_inc1 _) (by decide) rfl (fun ls hl => ?_)
          refine lv_goto (pc := 61) (tgt := 8) hx hb d_mm_settle_61 rfl ?_
          exact hb8 (y58_1, z8_2 + 1, y58_f_accepted, y58_f_free, y58_f_coin, y58_f_pool) h _ _ _ hP hD hS (lv_sub hl [1, 2, 0] rfl)
        refine lv_if_ne (pc := 26) (tgt := 32) hx hb d_mm_settle_26 rfl (fun hc => ?_) (fun hc => ?_)
        · have h := mo_f hc h
          refine lv_aload_n (pc := 32) hx hb d_mm_settle_32 rfl (lv_at hl 0 rfl) ?_
          refine lv_aload_n (pc := 33) hx hb d_mm_settle_33 rfl (lv_at hl 0 rfl) ?_
          refine gf_mm_76 (pc := 34) hx hb hw hN hown hK hP 0 rfl rfl d_mm_settle_34 ?_
          refine lv_iload_n (pc := 37) hx hb d_mm_settle_37 rfl (lv_at hl 2 rfl) ?_
          obtain ⟨v38, hi38, e38, h⟩ := mo_rI_e h
          refine mo_iald (pc := 38) hx hb hK hP 24 0 rfl rfl hi38 e38 d_mm_settle_38 ?_
          obtain ⟨⟨r39, r39_0, r39_1, r39_2⟩, hr39, h⟩ := mo_bd_e h
          try dsimp only at h
          refine mo_mV (pc := 39) (As := [.int v38]) (rest := []) (st1 := [.int r39]) ⟨hx, hb, hml, hown, hw⟩ (c_mm_take l D cI cL cZ a_this a_inputs a_source a_index a_amount a_worth a_outputs a_accepted a_free a_coin a_secret a_lock a_id a_parents a_parent a_holds a_held a_blockLock a_hash a_past a_blues a_score a_selected a_orphan a_pool a_order a_merged v_limit v_made v_blocks v_dag v_orphans v_pooled r1_0 f_inputs f_source f_index f_amount r1_10 f_outputs z8_f_accepted z8_f_free z8_f_coin v38 (r39, r39_0, r39_1, r39_2) hr39) (kV_mm_168 hw ⟨by decide, by decide⟩) hP hD hS hK hN [0, 15, 16, 17, 21, 22, 23, 10, 11, 12] [some 0, none, none, none, none, none, none, none, none, none, some 7, some 8, some 9, none, none, some 1, some 2, some 3, none, none, none, some 4, some 5, some 6, none] rfl rfl rfl rfl rfl rfl rfl hl.1 rfl rfl d_mm_settle_39 rfl (fun H locs hP hD hS => ?_)
          have hP : va_P D cl [(a_this, .inr (7, [.int v_limit, .int v_made, .ref a_inputs, .ref a_outputs, .ref a_source, .ref a_index, .ref a_secret, .ref a_lock, .ref a_amount, .ref a_id, .int v_blocks, .ref a_parents, .ref a_parent, .ref a_holds, .ref a_held, .ref a_blockLock, .ref a_hash, .long v_dag, .ref a_past, .ref a_blues, .ref a_score, .ref a_selected, .int v_orphans, .ref a_orphan, .int v_pooled, .ref a_pool, .int r1_0, .ref a_order, .ref a_merged, .ref a_accepted, .ref a_free, .ref a_coin, .ref a_worth])), (a_parents, .inl (cI, 62, .inl f_parents)), (a_parent, .inl (cI, 248, .inl f_parent)), (a_past, .inl (cL, 61, .inr (.inl r1_1))), (a_score, .inl (cI, 61, .inl r1_2)), (a_hash, .inl (cI, 62, .inl f_hash)), (a_selected, .inl (cI, 61, .inl r1_3)), (a_blues, .inl (cL, 61, .inr (.inl r1_4))), (a_merged, .inl (cI, 64, .inl r1_5)), (a_order, .inl (cI, 64, .inl r1_6)), (a_accepted, .inl (cZ, 40, .inl r39_0)), (a_free, .inl (cZ, 80, .inl r39_1)), (a_coin, .inl (cZ, 60, .inl r39_2)), (a_holds, .inl (cI, 62, .inl f_holds)), (a_held, .inl (cI, 186, .inl f_held)), (a_inputs, .inl (cI, 41, .inl f_inputs)), (a_source, .inl (cI, 82, .inl f_source)), (a_index, .inl (cI, 82, .inl f_index)), (a_lock, .inl (cI, 82, .inl f_lock)), (a_blockLock, .inl (cI, 62, .inl f_blockLock)), (a_secret, .inl (cI, 82, .inl f_secret)), (a_amount, .inl (cI, 82, .inl f_amount)), (a_worth, .inl (cI, 60, .inl r1_10)), (a_outputs, .inl (cI, 41, .inl f_outputs)), (a_pool, .inl (cI, 8, .inl z8_f_pool))] H := hP
          have hD : va_D A [(a_this, .inr (7, [.int v_limit, .int v_made, .ref a_inputs, .ref a_outputs, .ref a_source, .ref a_index, .ref a_secret, .ref a_lock, .ref a_amount, .ref a_id, .int v_blocks, .ref a_parents, .ref a_parent, .ref a_holds, .ref a_held, .ref a_blockLock, .ref a_hash, .long v_dag, .ref a_past, .ref a_blues, .ref a_score, .ref a_selected, .int v_orphans, .ref a_orphan, .int v_pooled, .ref a_pool, .int r1_0, .ref a_order, .ref a_merged, .ref a_accepted, .ref a_free, .ref a_coin, .ref a_worth])), (a_parents, .inl (cI, 62, .inl f_parents)), (a_parent, .inl (cI, 248, .inl f_parent)), (a_past, .inl (cL, 61, .inr (.inl r1_1))), (a_score, .inl (cI, 61, .inl r1_2)), (a_hash, .inl (cI, 62, .inl f_hash)), (a_selected, .inl (cI, 61, .inl r1_3)), (a_blues, .inl (cL, 61, .inr (.inl r1_4))), (a_merged, .inl (cI, 64, .inl r1_5)), (a_order, .inl (cI, 64, .inl r1_6)), (a_accepted, .inl (cZ, 40, .inl r39_0)), (a_free, .inl (cZ, 80, .inl r39_1)), (a_coin, .inl (cZ, 60, .inl r39_2)), (a_holds, .inl (cI, 62, .inl f_holds)), (a_held, .inl (cI, 186, .inl f_held)), (a_inputs, .inl (cI, 41, .inl f_inputs)), (a_source, .inl (cI, 82, .inl f_source)), (a_index, .inl (cI, 82, .inl f_index)), (a_lock, .inl (cI, 82, .inl f_lock)), (a_blockLock, .inl (cI, 62, .inl f_blockLock)), (a_secret, .inl (cI, 82, .inl f_secret)), (a_amount, .inl (cI, 82, .inl f_amount)), (a_worth, .inl (cI, 60, .inl r1_10)), (a_outputs, .inl (cI, 41, .inl f_outputs)), (a_pool, .inl (cI, 8, .inl z8_f_pool))] := hD
          refine lv_istore_n (pc := 42) (lv' := [(3, .int r39), (0, .ref a_this), (1, .int z8_1), (2, .int z8_2)]) hx hb d_mm_settle_42 rfl hl (by decide) rfl (fun ls hl => ?_)
          refine lv_aload_n (pc := 43) hx hb d_mm_settle_43 rfl (lv_at hl 1 rfl) ?_
          refine gf_mm_76 (pc := 44) hx hb hw hN hown hK hP 0 rfl rfl d_mm_settle_44 ?_
          refine lv_iload_n (pc := 47) hx hb d_mm_settle_47 rfl (lv_at hl 2 rfl) ?_
          refine lv_aload_n (pc := 48) hx hb d_mm_settle_48 rfl (lv_at hl 1 rfl) ?_
          refine gf_mm_76 (pc := 49) hx hb hw hN hown hK hP 0 rfl rfl d_mm_settle_49 ?_
          refine lv_iload_n (pc := 52) hx hb d_mm_settle_52 rfl (lv_at hl 3 rfl) ?_
          obtain ⟨v53, hi53, e53, h⟩ := mo_rI_e h
          refine mo_iald (pc := 53) hx hb hK hP 24 0 rfl rfl hi53 e53 d_mm_settle_53 ?_
          obtain ⟨g54, hi54, e54, h⟩ := mo_wI_e h
          refine mo_iast (pc := 54) hx hb hK hP hD hS 24 0 rfl rfl hi54 e54 d_mm_settle_54 (fun H locs hP hD hS => ?_)
          have hP : va_P D cl [(a_this, .inr (7, [.int v_limit, .int v_made, .ref a_inputs, .ref a_outputs, .ref a_source, .ref a_index, .ref a_secret, .ref a_lock, .ref a_amount, .ref a_id, .int v_blocks, .ref a_parents, .ref a_parent, .ref a_holds, .ref a_held, .ref a_blockLock, .ref a_hash, .long v_dag, .ref a_past, .ref a_blues, .ref a_score, .ref a_selected, .int v_orphans, .ref a_orphan, .int v_pooled, .ref a_pool, .int r1_0, .ref a_order, .ref a_merged, .ref a_accepted, .ref a_free, .ref a_coin, .ref a_worth])), (a_parents, .inl (cI, 62, .inl f_parents)), (a_parent, .inl (cI, 248, .inl f_parent)), (a_past, .inl (cL, 61, .inr (.inl r1_1))), (a_score, .inl (cI, 61, .inl r1_2)), (a_hash, .inl (cI, 62, .inl f_hash)), (a_selected, .inl (cI, 61, .inl r1_3)), (a_blues, .inl (cL, 61, .inr (.inl r1_4))), (a_merged, .inl (cI, 64, .inl r1_5)), (a_order, .inl (cI, 64, .inl r1_6)), (a_accepted, .inl (cZ, 40, .inl r39_0)), (a_free, .inl (cZ, 80, .inl r39_1)), (a_coin, .inl (cZ, 60, .inl r39_2)), (a_holds, .inl (cI, 62, .inl f_holds)), (a_held, .inl (cI, 186, .inl f_held)), (a_inputs, .inl (cI, 41, .inl f_inputs)), (a_source, .inl (cI, 82, .inl f_source)), (a_index, .inl (cI, 82, .inl f_index)), (a_lock, .inl (cI, 82, .inl f_lock)), (a_blockLock, .inl (cI, 62, .inl f_blockLock)), (a_secret, .inl (cI, 82, .inl f_secret)), (a_amount, .inl (cI, 82, .inl f_amount)), (a_worth, .inl (cI, 60, .inl r1_10)), (a_outputs, .inl (cI, 41, .inl f_outputs)), (a_pool, .inl (cI, 8, .inl g54))] H := hP
          have hD : va_D A [(a_this, .inr (7, [.int v_limit, .int v_made, .ref a_inputs, .ref a_outputs, .ref a_source, .ref a_index, .ref a_secret, .ref a_lock, .ref a_amount, .ref a_id, .int v_blocks, .ref a_parents, .ref a_parent, .ref a_holds, .ref a_held, .ref a_blockLock, .ref a_hash, .long v_dag, .ref a_past, .ref a_blues, .ref a_score, .ref a_selected, .int v_orphans, .ref a_orphan, .int v_pooled, .ref a_pool, .int r1_0, .ref a_order, .ref a_merged, .ref a_accepted, .ref a_free, .ref a_coin, .ref a_worth])), (a_parents, .inl (cI, 62, .inl f_parents)), (a_parent, .inl (cI, 248, .inl f_parent)), (a_past, .inl (cL, 61, .inr (.inl r1_1))), (a_score, .inl (cI, 61, .inl r1_2)), (a_hash, .inl (cI, 62, .inl f_hash)), (a_selected, .inl (cI, 61, .inl r1_3)), (a_blues, .inl (cL, 61, .inr (.inl r1_4))), (a_merged, .inl (cI, 64, .inl r1_5)), (a_order, .inl (cI, 64, .inl r1_6)), (a_accepted, .inl (cZ, 40, .inl r39_0)), (a_free, .inl (cZ, 80, .inl r39_1)), (a_coin, .inl (cZ, 60, .inl r39_2)), (a_holds, .inl (cI, 62, .inl f_holds)), (a_held, .inl (cI, 186, .inl f_held)), (a_inputs, .inl (cI, 41, .inl f_inputs)), (a_source, .inl (cI, 82, .inl f_source)), (a_index, .inl (cI, 82, .inl f_index)), (a_lock, .inl (cI, 82, .inl f_lock)), (a_blockLock, .inl (cI, 62, .inl f_blockLock)), (a_secret, .inl (cI, 82, .inl f_secret)), (a_amount, .inl (cI, 82, .inl f_amount)), (a_worth, .inl (cI, 60, .inl r1_10)), (a_outputs, .inl (cI, 41, .inl f_outputs)), (a_pool, .inl (cI, 8, .inl g54))] := hD
          refine lv_iinc (pc := 55) (k := 2) (v := z8_1 + 1) (lv' := [(1, .int (z8_1 + 1)), (3, .int r39), (0, .ref a_this), (2, .int z8_2)]) hx hb d_mm_settle_55 hl rfl (mo_inc1 _) (by decide) rfl (fun ls hl => ?_)
          exact B58 (z8_1 + 1) r39_0 r39_1 r39_2 g54 _ _ _ hP hD hS (lv_sub hl [2, 0, 3] rfl) h
        · have h := mo_t hc h
          refine lv_goto (pc := 29) (tgt := 58) hx hb d_mm_settle_29 rfl ?_
          exact B58 z8_1 z8_f_accepted z8_f_free z8_f_coin z8_f_pool _ _ _ hP hD hS (lv_sub hl [0, 1, 2] rfl) h
    ) _ _ hy8 _ _ _ hP hD hS (lv_sub hl [2, 1, 0] rfl)
set_option maxRecDepth 100000 in
set_option maxHeartbeats 4000000 in
theorem c_mm_isOrphan (l : Launch) (D : va_G) (cI cL cZ : ClassId) (a_this : Nat) (a_orphan : Nat) (a_inputs : Nat) (a_outputs : Nat) (a_source : Nat) (a_index : Nat) (a_secret : Nat) (a_lock : Nat) (a_amount : Nat) (a_id : Nat) (a_parents : Nat) (a_parent : Nat) (a_holds : Nat) (a_held : Nat) (a_blockLock : Nat) (a_hash : Nat) (a_past : Nat) (a_blues : Nat) (a_score : Nat) (a_selected : Nat) (a_pool : Nat) (a_order : Nat) (a_merged : Nat) (a_accepted : Nat) (a_free : Nat) (a_coin : Nat) (a_worth : Nat) (v_limit : Int32) (v_made : Int32) (v_blocks : Int32) (v_dag : Int64) (v_orphans : Int32) (v_pooled : Int32) (v_places : Int32) (f_orphan : Nat → Int32) (x1 : Int32) (o : Int32) (h : m_mm_isOrphan v_orphans f_orphan x1 = some o) : Met l y_mm_isOrphan (Cond.code y_mm_isOrphan b_mm_isOrphan 4 (some .boolean) :: WG) rm_mm_isOrphan (va_Pc [.ref a_this, .int x1] (mo_Pr D [(cI, .int), (cL, .long), (cZ, .boolean)] [(a_this, .inr (7, [.int v_limit, .int v_made, .ref a_inputs, .ref a_outputs, .ref a_source, .ref a_index, .ref a_secret, .ref a_lock, .ref a_amount, .ref a_id, .int v_blocks, .ref a_parents, .ref a_parent, .ref a_holds, .ref a_held, .ref a_blockLock, .ref a_hash, .long v_dag, .ref a_past, .ref a_blues, .ref a_score, .ref a_selected, .int v_orphans, .ref a_orphan, .int v_pooled, .ref a_pool, .int v_places, .ref a_order, .ref a_merged, .ref a_accepted, .ref a_free, .ref a_coin, .ref a_worth])), (a_orphan, .inl (cI, 4, .inl f_orphan))])) (mo_Qr (some (.int o))) 0 0 (fun _ => False) := by
  refine mo_start (by decide) (Nat.le_of_ble_eq_true rfl) ?_
  intro p e s m args below meth c hx hb hr hlocks hml hown hw hv ls hl Q hQ
  obtain ⟨hP, hK, hN⟩ := hv
  have hl : lv_has ls 4 [(0, .ref a_this), (1, .int x1)] := hl
  unfold m_mm_isOrphan at h
  refine lv_iconst (pc := 0) (v := 0) hx hb d_mm_isOrphan_0 (by decide) ?_
  refine lv_istore_n (pc := 1) (lv' := [(2, .int 0), (0, .ref a_this), (1, .int x1)]) hx hb d_mm_isOrphan_1 rfl hl (by decide) rfl (fun ls hl => ?_)
  refine lv_iconst (pc := 2) (v := 0) hx hb d_mm_isOrphan_2 (by decide) ?_
  refine lv_istore_n (pc := 3) (lv' := [(3, .int 0), (2, .int 0), (0, .ref a_this), (1, .int x1)]) hx hb d_mm_isOrphan_3 rfl hl (by decide) rfl (fun ls hl => ?_)
  obtain ⟨w4, K4, eK4, hy4, hr4⟩ := mo_bd_k h
  have E4 : ∀ (y4_2 : Int32) (ls : Array Slot) (hl : lv_has ls 4 [(2, .int y4_2)]) (h : K4 y4_2 = some o), W p l e rm_mm_isOrphan s m args below meth c s.heap [] 0 0 Q (F0 m 38 ls []) := by
    intro y4_2 ls hl h
    have h := mo_a1 eK4 h
    try dsimp only at h
    refine lv_iload_n (pc := 38) hx hb d_mm_isOrphan_38 rfl (lv_at hl 0 rfl) ?_
    obtain ⟨hz, h⟩ := mo_bz_e h
    exact mo_retZr (mo_nz hz) hx hb hr hlocks hQ h d_mm_isOrphan_39
  exact mo_lp_i (step := (m_mm_isOrphan_L4 v_orphans f_orphan x1)) (o := w4) (fun (x : Int32 × Int32) => match x with | (z4_2, z4_3) => ∀ (ls : Array Slot) (hl : lv_has ls 4 [(0, .ref a_this), (1, .int x1), (2, .int z4_2), (3, .int z4_3)]), W p l e rm_mm_isOrphan s m args below meth c s.heap [] 0 0 Q (F0 m 4 ls [])) (by
      rintro bk4 hb4 ⟨z4_2, z4_3⟩ h ls hl
      unfold m_mm_isOrphan_L4 at h
      try dsimp only at h
      refine lv_iload_n (pc := 4) hx hb d_mm_isOrphan_4 rfl (lv_at hl 3 rfl) ?_
      refine lv_aload_n (pc := 5) hx hb d_mm_isOrphan_5 rfl (lv_at hl 0 rfl) ?_
      refine gf_mm_186 (pc := 6) hx hb hw hN hown hK hP 0 rfl rfl d_mm_isOrphan_6 ?_
      refine lv_icmp_ge (pc := 9) (tgt := 38) hx hb d_mm_isOrphan_9 rfl (fun hc => ?_) (fun hc => ?_)
      · have h := mo_t hc h
        exact E4 z4_2 _ (lv_sub hl [2] rfl) (by rw [Option.some.inj h]; exact hr4)
      · have h := mo_f hc h
        refine lv_iload_n (pc := 12) hx hb d_mm_isOrphan_12 rfl (lv_at hl 2 rfl) ?_
        obtain ⟨j31, ej31, h⟩ := mo_jn_e h
        have B31 : ∀ (s31_0 : Int32) (ls : Array Slot) (hl : lv_has ls 4 [(0, .ref a_this), (1, .int x1), (3, .int z4_3)]) (h : j31 s31_0 = some w4), W p l e rm_mm_isOrphan s m args below meth c s.heap [] 0 0 Q (F0 m 31 ls [.int s31_0]) := by
          intro s31_0 ls hl h
          have h := mo_a1 ej31 h
          refine lv_istore_n (pc := 31) (lv' := [(2, .int s31_0), (0, .ref a_this), (1, .int x1), (3, .int z4_3)]) hx hb d_mm_isOrphan_31 rfl hl (by decide) rfl (fun ls hl => ?_)
          refine lv_iinc (pc := 32) (k := 3) (v := z4_3 + 1) (lv' := [(3, .int (z4_3 + 1)), (2, .int s31_0), (0, .ref a_this), (1, .int x1)]) hx hb d_mm_isOrphan_32 hl rfl (mo_inc1 _) (by decide) rfl (fun ls hl => ?_)
          refine lv_goto (pc := 35) (tgt := 4) hx hb d_mm_isOrphan_35 rfl ?_
          exact hb4 (s31_0, z4_3 + 1) h _ (lv_sub hl [2, 3, 1, 0] rfl)
        obtain ⟨j26, ej26, h⟩ := mo_jn_e h
        have B26 : ∀ (ls : Array Slot) (hl : lv_has ls 4 [(0, .ref a_this), (1, .int x1), (3, .int z4_3)]) (h : j26 = some w4), W p l e rm_mm_isOrphan s m args below meth c s.heap [] 0 0 Q (F0 m 26 ls []) := by
          intro ls hl h
          have h := mo_a0 ej26 h
          refine lv_iconst (pc := 26) (v := 1) hx hb d_mm_isOrphan_26 (by decide) ?_
          refine lv_goto (pc := 27) (tgt := 31) hx hb d_mm_isOrphan_27 rfl ?_
          exact B31 1 _ (lv_sub hl [0, 1, 2] rfl) h
        refine lv_if_ne (pc := 13) (tgt := 26) hx hb d_mm_isOrphan_13 rfl (fun hc => ?_) (fun hc => ?_)
        · have h := mo_f hc h
          exact B26 _ (lv_sub hl [0, 1, 3] rfl) h
        · have h := mo_t hc h
          refine lv_aload_n (pc := 16) hx hb d_mm_isOrphan_16 rfl (lv_at hl 0 rfl) ?_
          refine gf_mm_73 (pc := 17) hx hb hw hN hown hK hP 0 rfl rfl d_mm_isOrphan_17 ?_
          refine lv_iload_n (pc := 20) hx hb d_mm_isOrphan_20 rfl (lv_at hl 3 rfl) ?_
          obtain ⟨v21, hi21, e21, h⟩ := mo_rI_e h
          refine mo_iald (pc := 21) hx hb hK hP 1 0 rfl rfl hi21 e21 d_mm_isOrphan_21 ?_
          refine lv_iload_n (pc := 22) hx hb d_mm_isOrphan_22 rfl (lv_at hl 1 rfl) ?_
          refine lv_icmp_ne (pc := 23) (tgt := 30) hx hb d_mm_isOrphan_23 rfl (fun hc => ?_) (fun hc => ?_)
          · have h := mo_f hc h
            refine lv_iconst (pc := 30) (v := 0) hx hb d_mm_isOrphan_30 (by decide) ?_
            exact B31 0 _ (lv_sub hl [0, 1, 3] rfl) h
          · have h := mo_t hc h
            exact B26 _ (lv_sub hl [0, 1, 3] rfl) h
    ) _ _ hy4 _ (lv_sub hl [2, 3, 1, 0] rfl)
set_option maxRecDepth 100000 in
set_option maxHeartbeats 4000000 in
theorem c_mm_complete (l : Launch) (D : va_G) (cI cL cZ : ClassId) (a_this : Nat) (a_parents : Nat) (a_parent : Nat) (a_inputs : Nat) (a_outputs : Nat) (a_source : Nat) (a_index : Nat) (a_secret : Nat) (a_lock : Nat) (a_amount : Nat) (a_id : Nat) (a_holds : Nat) (a_held : Nat) (a_blockLock : Nat) (a_hash : Nat) (a_past : Nat) (a_blues : Nat) (a_score : Nat) (a_selected : Nat) (a_orphan : Nat) (a_pool : Nat) (a_order : Nat) (a_merged : Nat) (a_accepted : Nat) (a_free : Nat) (a_coin : Nat) (a_worth : Nat) (v_limit : Int32) (v_made : Int32) (v_blocks : Int32) (v_dag : Int64) (v_orphans : Int32) (v_pooled : Int32) (v_places : Int32) (f_parents : Nat → Int32) (f_parent : Nat → Int32) (x1 : Int32) (o : Int32) (h : m_mm_complete v_dag f_parents f_parent x1 = some o) : Met l y_mm_complete (Cond.code y_mm_complete b_mm_complete 4 (some .boolean) :: WG) rm_mm_complete (va_Pc [.ref a_this, .int x1] (mo_Pr D [(cI, .int), (cL, .long), (cZ, .boolean)] [(a_this, .inr (7, [.int v_limit, .int v_made, .ref a_inputs, .ref a_outputs, .ref a_source, .ref a_index, .ref a_secret, .ref a_lock, .ref a_amount, .ref a_id, .int v_blocks, .ref a_parents, .ref a_parent, .ref a_holds, .ref a_held, .ref a_blockLock, .ref a_hash, .long v_dag, .ref a_past, .ref a_blues, .ref a_score, .ref a_selected, .int v_orphans, .ref a_orphan, .int v_pooled, .ref a_pool, .int v_places, .ref a_order, .ref a_merged, .ref a_accepted, .ref a_free, .ref a_coin, .ref a_worth])), (a_parents, .inl (cI, 62, .inl f_parents)), (a_parent, .inl (cI, 248, .inl f_parent))])) (mo_Qr (some (.int o))) 0 0 (fun _ => False) := by
  refine mo_start (by decide) (Nat.le_of_ble_eq_true rfl) ?_
  intro p e s m args below meth c hx hb hr hlocks hml hown hw hv ls hl Q hQ
  obtain ⟨hP, hK, hN⟩ := hv
  have hl : lv_has ls 4 [(0, .ref a_this), (1, .int x1)] := hl
  unfold m_mm_complete at h
  refine lv_iconst (pc := 0) (v := 1) hx hb d_mm_complete_0 (by decide) ?_
  refine lv_istore_n (pc := 1) (lv' := [(2, .int 1), (0, .ref a_this), (1, .int x1)]) hx hb d_mm_complete_1 rfl hl (by decide) rfl (fun ls hl => ?_)
  refine lv_iconst (pc := 2) (v := 0) hx hb d_mm_complete_2 (by decide) ?_
  refine lv_istore_n (pc := 3) (lv' := [(3, .int 0), (2, .int 1), (0, .ref a_this), (1, .int x1)]) hx hb d_mm_complete_3 rfl hl (by decide) rfl (fun ls hl => ?_)
  obtain ⟨w4, K4, eK4, hy4, hr4⟩ := mo_bd_k h
  have E4 : ∀ (y4_2 : Int32) (ls : Array Slot) (hl : lv_has ls 4 [(2, .int y4_2)]) (h : K4 y4_2 = some o), W p l e rm_mm_complete s m args below meth c s.heap [] 0 0 Q (F0 m 50 ls []) := by
    intro y4_2 ls hl h
    have h := mo_a1 eK4 h
    try dsimp only at h
    refine lv_iload_n (pc := 50) hx hb d_mm_complete_50 rfl (lv_at hl 0 rfl) ?_
    obtain ⟨hz, h⟩ := mo_bz_e h
    exact mo_retZr (mo_nz hz) hx hb hr hlocks hQ h d_mm_complete_51
  exact mo_lp_i (step := (m_mm_complete_L4 v_dag f_parents f_parent x1)) (o := w4) (fun (x : Int32 × Int32) => match x with | (z4_2, z4_3) => ∀ (ls : Array Slot) (hl : lv_has ls 4 [(0, .ref a_this), (1, .int x1), (2, .int z4_2), (3, .int z4_3)]), W p l e rm_mm_complete s m args below meth c s.heap [] 0 0 Q (F0 m 4 ls [])) (by
      rintro bk4 hb4 ⟨z4_2, z4_3⟩ h ls hl
      unfold m_mm_complete_L4 at h
      try dsimp only at h
      refine lv_iload_n (pc := 4) hx hb d_mm_complete_4 rfl (lv_at hl 3 rfl) ?_
      refine lv_aload_n (pc := 5) hx hb d_mm_complete_5 rfl (lv_at hl 0 rfl) ?_
      refine gf_mm_38 (pc := 6) hx hb hw hN hown hK hP 0 rfl rfl d_mm_complete_6 ?_
      refine lv_iload_n (pc := 9) hx hb d_mm_complete_9 rfl (lv_at hl 1 rfl) ?_
      obtain ⟨v10, hi10, e10, h⟩ := mo_rI_e h
      refine mo_iald (pc := 10) hx hb hK hP 1 0 rfl rfl hi10 e10 d_mm_complete_10 ?_
      refine lv_icmp_ge (pc := 11) (tgt := 50) hx hb d_mm_complete_11 rfl (fun hc => ?_) (fun hc => ?_)
      · have h := mo_t hc h
        exact E4 z4_2 _ (lv_sub hl [2] rfl) (by rw [Option.some.inj h]; exact hr4)
      · have h := mo_f hc h
        refine lv_iload_n (pc := 14) hx hb d_mm_complete_14 rfl (lv_at hl 2 rfl) ?_
        obtain ⟨j43, ej43, h⟩ := mo_jn_e h
        have B43 : ∀ (s43_0 : Int32) (ls : Array Slot) (hl : lv_has ls 4 [(0, .ref a_this), (1, .int x1), (3, .int z4_3)]) (h : j43 s43_0 = some w4), W p l e rm_mm_complete s m args below meth c s.heap [] 0 0 Q (F0 m 43 ls [.int s43_0]) := by
          intro s43_0 ls hl h
          have h := mo_a1 ej43 h
          refine lv_istore_n (pc := 43) (lv' := [(2, .int s43_0), (0, .ref a_this), (1, .int x1), (3, .int z4_3)]) hx hb d_mm_complete_43 rfl hl (by decide) rfl (fun ls hl => ?_)
          refine lv_iinc (pc := 44) (k := 3) (v := z4_3 + 1) (lv' := [(3, .int (z4_3 + 1)), (2, .int s43_0), (0, .ref a_this), (1, .int x1)]) hx hb d_mm_complete_44 hl rfl (mo_inc1 _) (by decide) rfl (fun ls hl => ?_)
          refine lv_goto (pc := 47) (tgt := 4) hx hb d_mm_complete_47 rfl ?_
          exact hb4 (s43_0, z4_3 + 1) h _ (lv_sub hl [2, 3, 1, 0] rfl)
        obtain ⟨j42, ej42, h⟩ := mo_jn_e h
        have B42 : ∀ (ls : Array Slot) (hl : lv_has ls 4 [(0, .ref a_this), (1, .int x1), (3, .int z4_3)]) (h : j42 = some w4), W p l e rm_mm_complete s m args below meth c s.heap [] 0 0 Q (F0 m 42 ls []) := by
          intro ls hl h
          have h := mo_a0 ej42 h
          refine lv_iconst (pc := 42) (v := 0) hx hb d_mm_complete_42 (by decide) ?_
          exact B43 0 _ (lv_sub hl [0, 1, 2] rfl) h
        refine lv_if_eq (pc := 15) (tgt := 42) hx hb d_mm_complete_15 rfl (fun hc => ?_) (fun hc => ?_)
        · have h := mo_t hc h
          exact B42 _ (lv_sub hl [0, 1, 3] rfl) h
        · have h := mo_f hc h
          refine lv_aload_n (pc := 18) hx hb d_mm_complete_18 rfl (lv_at hl 0 rfl) ?_
          refine gf_mm_56 (pc := 19) hx hb hw hN hown hK hP 0 rfl rfl d_mm_complete_19 ?_
          refine lv_aload_n (pc := 22) hx hb d_mm_complete_22 rfl (lv_at hl 0 rfl) ?_
          refine gf_mm_41 (pc := 23) hx hb hw hN hown hK hP 0 rfl rfl d_mm_complete_23 ?_
          refine lv_iconst (pc := 26) (v := 4) hx hb d_mm_complete_26 (by decide) ?_
          refine lv_iload_n (pc := 27) hx hb d_mm_complete_27 rfl (lv_at hl 1 rfl) ?_
          refine lv_imul (pc := 28) hx hb d_mm_complete_28 ?_
          refine lv_iload_n (pc := 29) hx hb d_mm_complete_29 rfl (lv_at hl 3 rfl) ?_
          refine lv_iadd (pc := 30) hx hb d_mm_complete_30 ?_
          obtain ⟨v31, hi31, e31, h⟩ := mo_rI_e h
          refine mo_iald (pc := 31) hx hb hK hP 2 0 rfl rfl hi31 e31 d_mm_complete_31 ?_
          obtain ⟨r32, hr32, h⟩ := mo_bd_e h
          refine mo_rS (pc := 32) (As := [.long v_dag, .int v31]) (rest := []) (st1 := [.int r32]) ⟨hx, hb, hml, hown, hw⟩ (c_mm_in l D cI cL cZ v_dag v31 r32 hr32) (kS_mm_125 hw ⟨by decide, by decide⟩) mo_P0 hK hN rfl hl.1 rfl rfl d_mm_complete_32 rfl ?_
          refine lv_if_eq (pc := 35) (tgt := 42) hx hb d_mm_complete_35 rfl (fun hc => ?_) (fun hc => ?_)
          · have h := mo_t hc h
            exact B42 _ (lv_sub hl [0, 1, 3] rfl) h
          · have h := mo_f hc h
            refine lv_iconst (pc := 38) (v := 1) hx hb d_mm_complete_38 (by decide) ?_
            refine lv_goto (pc := 39) (tgt := 43) hx hb d_mm_complete_39 rfl ?_
            exact B43 1 _ (lv_sub hl [0, 1, 3] rfl) h
    ) _ _ hy4 _ (lv_sub hl [2, 3, 1, 0] rfl)
set_option maxRecDepth 100000 in
set_option maxHeartbeats 4000000 in
theorem c_mm_nested (l : Launch) (D : va_G) (cI cL cZ : ClassId) (a_this : Nat) (a_parents : Nat) (a_parent : Nat) (a_past : Nat) (a_inputs : Nat) (a_outputs : Nat) (a_source : Nat) (a_index : Nat) (a_secret : Nat) (a_lock : Nat) (a_amount : Nat) (a_id : Nat) (a_holds : Nat) (a_held : Nat) (a_blockLock : Nat) (a_hash : Nat) (a_blues : Nat) (a_score : Nat) (a_selected : Nat) (a_orphan : Nat) (a_pool : Nat) (a_order : Nat) (a_merged : Nat) (a_accepted : Nat) (a_free : Nat) (a_coin : Nat) (a_worth : Nat) (v_limit : Int32) (v_made : Int32) (v_blocks : Int32) (v_dag : Int64) (v_orphans : Int32) (v_pooled : Int32) (v_places : Int32) (f_parents : Nat → Int32) (f_parent : Nat → Int32) (f_past : Nat → Int64) (x1 : Int32) (o : Int32) (h : m_mm_nested f_parents f_parent f_past x1 = some o) : Met l y_mm_nested (Cond.code y_mm_nested b_mm_nested 5 (some .boolean) :: WG) rm_mm_nested (va_Pc [.ref a_this, .int x1] (mo_Pr D [(cI, .int), (cL, .long), (cZ, .boolean)] [(a_this, .inr (7, [.int v_limit, .int v_made, .ref a_inputs, .ref a_outputs, .ref a_source, .ref a_index, .ref a_secret, .ref a_lock, .ref a_amount, .ref a_id, .int v_blocks, .ref a_parents, .ref a_parent, .ref a_holds, .ref a_held, .ref a_blockLock, .ref a_hash, .long v_dag, .ref a_past, .ref a_blues, .ref a_score, .ref a_selected, .int v_orphans, .ref a_orphan, .int v_pooled, .ref a_pool, .int v_places, .ref a_order, .ref a_merged, .ref a_accepted, .ref a_free, .ref a_coin, .ref a_worth])), (a_parents, .inl (cI, 62, .inl f_parents)), (a_parent, .inl (cI, 248, .inl f_parent)), (a_past, .inl (cL, 61, .inr (.inl f_past)))])) (mo_Qr (some (.int o))) 0 0 (fun _ => False) := by
  refine mo_start (by decide) (Nat.le_of_ble_eq_true rfl) ?_
  intro p e s m args below meth c hx hb hr hlocks hml hown hw hv ls hl Q hQ
  obtain ⟨hP, hK, hN⟩ := hv
  have hl : lv_has ls 5 [(0, .ref a_this), (1, .int x1)] := hl
  unfold m_mm_nested at h
  refine lv_iconst (pc := 0) (v := 0) hx hb d_mm_nested_0 (by decide) ?_
  refine lv_istore_n (pc := 1) (lv' := [(2, .int 0), (0, .ref a_this), (1, .int x1)]) hx hb d_mm_nested_1 rfl hl (by decide) rfl (fun ls hl => ?_)
  refine lv_iconst (pc := 2) (v := 0) hx hb d_mm_nested_2 (by decide) ?_
  refine lv_istore_n (pc := 3) (lv' := [(3, .int 0), (2, .int 0), (0, .ref a_this), (1, .int x1)]) hx hb d_mm_nested_3 rfl hl (by decide) rfl (fun ls hl => ?_)
  obtain ⟨w4, K4, eK4, hy4, hr4⟩ := mo_bd_k h
  have E4 : ∀ (y4_2 : Int32) (ls : Array Slot) (hl : lv_has ls 5 [(2, .int y4_2)]) (h : K4 y4_2 = some o), W p l e rm_mm_nested s m args below meth c s.heap [] 0 0 Q (F0 m 82 ls []) := by
    intro y4_2 ls hl h
    have h := mo_a1 eK4 h
    try dsimp only at h
    refine lv_iload_n (pc := 82) hx hb d_mm_nested_82 rfl (lv_at hl 0 rfl) ?_
    obtain ⟨hz, h⟩ := mo_bz_e h
    exact mo_retZr (mo_nz hz) hx hb hr hlocks hQ h d_mm_nested_83
  exact mo_lp_i (step := (m_mm_nested_L4 f_parents f_parent f_past x1)) (o := w4) (fun (x : Int32 × Int32) => match x with | (z4_2, z4_3) => ∀ (ls : Array Slot) (hl : lv_has ls 5 [(0, .ref a_this), (1, .int x1), (2, .int z4_2), (3, .int z4_3)]), W p l e rm_mm_nested s m args below meth c s.heap [] 0 0 Q (F0 m 4 ls [])) (by
      rintro bk4 hb4 ⟨z4_2, z4_3⟩ h ls hl
      unfold m_mm_nested_L4 at h
      try dsimp only at h
      refine lv_iload_n (pc := 4) hx hb d_mm_nested_4 rfl (lv_at hl 3 rfl) ?_
      refine lv_aload_n (pc := 5) hx hb d_mm_nested_5 rfl (lv_at hl 0 rfl) ?_
      refine gf_mm_38 (pc := 6) hx hb hw hN hown hK hP 0 rfl rfl d_mm_nested_6 ?_
      refine lv_iload_n (pc := 9) hx hb d_mm_nested_9 rfl (lv_at hl 1 rfl) ?_
      obtain ⟨v10, hi10, e10, h⟩ := mo_rI_e h
      refine mo_iald (pc := 10) hx hb hK hP 1 0 rfl rfl hi10 e10 d_mm_nested_10 ?_
      refine lv_icmp_ge (pc := 11) (tgt := 82) hx hb d_mm_nested_11 rfl (fun hc => ?_) (fun hc => ?_)
      · have h := mo_t hc h
        exact E4 z4_2 _ (lv_sub hl [2] rfl) (by rw [Option.some.inj h]; exact hr4)
      · have h := mo_f hc h
        refine lv_iconst (pc := 14) (v := 0) hx hb d_mm_nested_14 (by decide) ?_
        refine lv_istore (pc := 15) (lv' := [(4, .int 0), (0, .ref a_this), (1, .int x1), (2, .int z4_2), (3, .int z4_3)]) hx hb d_mm_nested_15 hl (by decide) rfl (fun ls hl => ?_)
        obtain ⟨w17, K17, eK17, hy17, hr17⟩ := mo_bd_k h
        have E17 : ∀ (y17_2 : Int32) (ls : Array Slot) (hl : lv_has ls 5 [(0, .ref a_this), (1, .int x1), (2, .int y17_2), (3, .int z4_3)]) (h : K17 y17_2 = some w4), W p l e rm_mm_nested s m args below meth c s.heap [] 0 0 Q (F0 m 76 ls []) := by
          intro y17_2 ls hl h
          have h := mo_a1 eK17 h
          try dsimp only at h
          refine lv_iinc (pc := 76) (k := 3) (v := z4_3 + 1) (lv' := [(3, .int (z4_3 + 1)), (0, .ref a_this), (1, .int x1), (2, .int y17_2)]) hx hb d_mm_nested_76 hl rfl (mo_inc1 _) (by decide) rfl (fun ls hl => ?_)
          refine lv_goto (pc := 79) (tgt := 4) hx hb d_mm_nested_79 rfl ?_
          exact hb4 (y17_2, z4_3 + 1) h _ (lv_sub hl [1, 2, 3, 0] rfl)
        exact mo_lp_i (step := (m_mm_nested_L17 f_parents f_parent f_past x1 z4_3)) (o := w17) (fun (x : Int32 × Int32) => match x with | (z17_2, z17_4) => ∀ (ls : Array Slot) (hl : lv_has ls 5 [(0, .ref a_this), (1, .int x1), (2, .int z17_2), (3, .int z4_3), (4, .int z17_4)]), W p l e rm_mm_nested s m args below meth c s.heap [] 0 0 Q (F0 m 17 ls [])) (by
            rintro bk17 hb17 ⟨z17_2, z17_4⟩ h ls hl
            unfold m_mm_nested_L17 at h
            try dsimp only at h
            refine lv_iload (pc := 17) hx hb d_mm_nested_17 (lv_at hl 4 rfl) ?_
            refine lv_aload_n (pc := 19) hx hb d_mm_nested_19 rfl (lv_at hl 0 rfl) ?_
            refine gf_mm_38 (pc := 20) hx hb hw hN hown hK hP 0 rfl rfl d_mm_nested_20 ?_
            refine lv_iload_n (pc := 23) hx hb d_mm_nested_23 rfl (lv_at hl 1 rfl) ?_
            obtain ⟨v24, hi24, e24, h⟩ := mo_rI_e h
            refine mo_iald (pc := 24) hx hb hK hP 1 0 rfl rfl hi24 e24 d_mm_nested_24 ?_
            refine lv_icmp_ge (pc := 25) (tgt := 76) hx hb d_mm_nested_25 rfl (fun hc => ?_) (fun hc => ?_)
            · have h := mo_t hc h
              exact E17 z17_2 _ (lv_sub hl [0, 1, 2, 3] rfl) (by rw [Option.some.inj h]; exact hr17)
            · have h := mo_f hc h
              refine lv_iload_n (pc := 28) hx hb d_mm_nested_28 rfl (lv_at hl 2 rfl) ?_
              obtain ⟨j69, ej69, h⟩ := mo_jn_e h
              have B69 : ∀ (s69_0 : Int32) (ls : Array Slot) (hl : lv_has ls 5 [(0, .ref a_this), (1, .int x1), (3, .int z4_3), (4, .int z17_4)]) (h : j69 s69_0 = some w17), W p l e rm_mm_nested s m args below meth c s.heap [] 0 0 Q (F0 m 69 ls [.int s69_0]) := by
                intro s69_0 ls hl h
                have h := mo_a1 ej69 h
                refine lv_istore_n (pc := 69) (lv' := [(2, .int s69_0), (0, .ref a_this), (1, .int x1), (3, .int z4_3), (4, .int z17_4)]) hx hb d_mm_nested_69 rfl hl (by decide) rfl (fun ls hl => ?_)
                refine lv_iinc (pc := 70) (k := 4) (v := z17_4 + 1) (lv' := [(4, .int (z17_4 + 1)), (2, .int s69_0), (0, .ref a_this), (1, .int x1), (3, .int z4_3)]) hx hb d_mm_nested_70 hl rfl (mo_inc1 _) (by decide) rfl (fun ls hl => ?_)
                refine lv_goto (pc := 73) (tgt := 17) hx hb d_mm_nested_73 rfl ?_
                exact hb17 (s69_0, z17_4 + 1) h _ (lv_sub hl [2, 3, 1, 4, 0] rfl)
              obtain ⟨j64, ej64, h⟩ := mo_jn_e h
              have B64 : ∀ (ls : Array Slot) (hl : lv_has ls 5 [(0, .ref a_this), (1, .int x1), (3, .int z4_3), (4, .int z17_4)]) (h : j64 = some w17), W p l e rm_mm_nested s m args below meth c s.heap [] 0 0 Q (F0 m 64 ls []) := by
                intro ls hl h
                have h := mo_a0 ej64 h
                refine lv_iconst (pc := 64) (v := 1) hx hb d_mm_nested_64 (by decide) ?_
                refine lv_goto (pc := 65) (tgt := 69) hx hb d_mm_nested_65 rfl ?_
                exact B69 1 _ (lv_sub hl [0, 1, 2, 3] rfl) h
              refine lv_if_ne (pc := 29) (tgt := 64) hx hb d_mm_nested_29 rfl (fun hc => ?_) (fun hc => ?_)
              · have h := mo_f hc h
                exact B64 _ (lv_sub hl [0, 1, 3, 4] rfl) h
              · have h := mo_t hc h
                refine lv_aload_n (pc := 32) hx hb d_mm_nested_32 rfl (lv_at hl 0 rfl) ?_
                refine gf_mm_60 (pc := 33) hx hb hw hN hown hK hP 0 rfl rfl d_mm_nested_33 ?_
                refine lv_aload_n (pc := 36) hx hb d_mm_nested_36 rfl (lv_at hl 0 rfl) ?_
                refine gf_mm_41 (pc := 37) hx hb hw hN hown hK hP 0 rfl rfl d_mm_nested_37 ?_
                refine lv_iconst (pc := 40) (v := 4) hx hb d_mm_nested_40 (by decide) ?_
                refine lv_iload_n (pc := 41) hx hb d_mm_nested_41 rfl (lv_at hl 1 rfl) ?_
                refine lv_imul (pc := 42) hx hb d_mm_nested_42 ?_
                refine lv_iload_n (pc := 43) hx hb d_mm_nested_43 rfl (lv_at hl 3 rfl) ?_
                refine lv_iadd (pc := 44) hx hb d_mm_nested_44 ?_
                obtain ⟨v45, hi45, e45, h⟩ := mo_rI_e h
                refine mo_iald (pc := 45) hx hb hK hP 2 0 rfl rfl hi45 e45 d_mm_nested_45 ?_
                obtain ⟨v46, hi46, e46, h⟩ := mo_rL_e h
                refine mo_lald (pc := 46) hx hb hK hP 3 1 rfl rfl hi46 e46 d_mm_nested_46 ?_
                refine lv_aload_n (pc := 47) hx hb d_mm_nested_47 rfl (lv_at hl 0 rfl) ?_
                refine gf_mm_41 (pc := 48) hx hb hw hN hown hK hP 0 rfl rfl d_mm_nested_48 ?_
                refine lv_iconst (pc := 51) (v := 4) hx hb d_mm_nested_51 (by decide) ?_
                refine lv_iload_n (pc := 52) hx hb d_mm_nested_52 rfl (lv_at hl 1 rfl) ?_
                refine lv_imul (pc := 53) hx hb d_mm_nested_53 ?_
                refine lv_iload (pc := 54) hx hb d_mm_nested_54 (lv_at hl 4 rfl) ?_
                refine lv_iadd (pc := 56) hx hb d_mm_nested_56 ?_
                obtain ⟨v57, hi57, e57, h⟩ := mo_rI_e h
                refine mo_iald (pc := 57) hx hb hK hP 2 0 rfl rfl hi57 e57 d_mm_nested_57 ?_
                obtain ⟨r58, hr58, h⟩ := mo_bd_e h
                refine mo_rS (pc := 58) (As := [.long v46, .int v57]) (rest := []) (st1 := [.int r58]) ⟨hx, hb, hml, hown, hw⟩ (c_mm_in l D cI cL cZ v46 v57 r58 hr58) (kS_mm_125 hw ⟨by decide, by decide⟩) mo_P0 hK hN rfl hl.1 rfl rfl d_mm_nested_58 rfl ?_
                refine lv_if_eq (pc := 61) (tgt := 68) hx hb d_mm_nested_61 rfl (fun hc => ?_) (fun hc => ?_)
                · have h := mo_t hc h
                  refine lv_iconst (pc := 68) (v := 0) hx hb d_mm_nested_68 (by decide) ?_
                  exact B69 0 _ (lv_sub hl [0, 1, 3, 4] rfl) h
                · have h := mo_f hc h
                  exact B64 _ (lv_sub hl [0, 1, 3, 4] rfl) h
          ) _ _ hy17 _ (lv_sub hl [1, 2, 3, 4, 0] rfl)
    ) _ _ hy4 _ (lv_sub hl [2, 3, 1, 0] rfl)
