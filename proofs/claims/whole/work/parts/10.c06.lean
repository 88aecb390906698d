set_option maxRecDepth 100000 in
set_option maxHeartbeats 4000000 in
theorem c_mm_many (l : Launch) (D : va_G) (cI cL cZ : ClassId) (x0 : Int64) (o : Int32) (h : m_mm_many x0 = some o) : Met l y_mm_many (Cond.code y_mm_many b_mm_many 4 (some .int) :: WG) rm_mm_many (va_Pc [.long x0] (mo_Pr D [(cI, .int), (cL, .long), (cZ, .boolean)] [])) (mo_Qr (some (.int o))) 0 0 (fun _ => False) := by
  refine mo_start (by decide) (Nat.le_of_ble_eq_true rfl) ?_
  intro p e s m args below meth c hx hb hr hlocks hml hown hw hv ls hl Q hQ
  obtain ⟨hP, hK, hN⟩ := hv
  have hl : lv_has ls 4 [(0, .long x0)] := hl
  unfold m_mm_many at h
  refine lv_iconst (pc := 0) (v := 0) hx hb d_mm_many_0 (by decide) ?_
  refine lv_istore_n (pc := 1) (lv' := [(2, .int 0), (0, .long x0)]) hx hb d_mm_many_1 rfl hl (by decide) rfl (fun ls hl => ?_)
  refine lv_iconst (pc := 2) (v := 0) hx hb d_mm_many_2 (by decide) ?_
  refine lv_istore_n (pc := 3) (lv' := [(3, .int 0), (2, .int 0), (0, .long x0)]) hx hb d_mm_many_3 rfl hl (by decide) rfl (fun ls hl => ?_)
  obtain ⟨w4, K4, eK4, hy4, hr4⟩ := mo_bd_k h
  have E4 : ∀ (y4_2 : Int32) (ls : Array Slot) (hl : lv_has ls 4 [(2, .int y4_2)]) (h : K4 y4_2 = some o), W p l e rm_mm_many s m args below meth c s.heap [] 0 0 Q (F0 m 32 ls []) := by
    intro y4_2 ls hl h
    have h := mo_a1 eK4 h
    try dsimp only at h
    refine lv_iload_n (pc := 32) hx hb d_mm_many_32 rfl (lv_at hl 0 rfl) ?_
    exact mo_retIr hx hb hr hlocks hQ h d_mm_many_33
  exact mo_lp_i (step := (m_mm_many_L4 x0)) (o := w4) (fun (x : Int32 × Int32) => match x with | (z4_2, z4_3) => ∀ (ls : Array Slot) (hl : lv_has ls 4 [(0, .long x0), (2, .int z4_2), (3, .int z4_3)]), W p l e rm_mm_many s m args below meth c s.heap [] 0 0 Q (F0 m 4 ls [])) (by
      rintro bk4 hb4 ⟨z4_2, z4_3⟩ h ls hl
      unfold m_mm_many_L4 at h
      try dsimp only at h
      refine lv_iload_n (pc := 4) hx hb d_mm_many_4 rfl (lv_at hl 2 rfl) ?_
      refine lv_bipush (pc := 5) (v := 60) hx hb d_mm_many_5 (by decide) ?_
      refine lv_icmp_ge (pc := 7) (tgt := 32) hx hb d_mm_many_7 rfl (fun hc => ?_) (fun hc => ?_)
      · have h := mo_t hc h
        exact E4 z4_2 _ (lv_sub hl [1] rfl) (by rw [Option.some.inj h]; exact hr4)
      · have h := mo_f hc h
        refine lv_lload_n (pc := 10) hx hb d_mm_many_10 rfl (lv_at hl 0 rfl) ?_
        refine lv_iload_n (pc := 11) hx hb d_mm_many_11 rfl (lv_at hl 2 rfl) ?_
        obtain ⟨r12, hr12, h⟩ := mo_bd_e h
        refine mo_rS (pc := 12) (As := [.long x0, .int z4_3]) (rest := []) (st1 := [.int r12]) ⟨hx, hb, hml, hown, hw⟩ (c_mm_in l D cI cL cZ x0 z4_3 r12 hr12) (kS_mm_125 hw ⟨by decide, by decide⟩) mo_P0 hK hN rfl hl.1 rfl rfl d_mm_many_12 rfl ?_
        obtain ⟨j25, ej25, h⟩ := mo_jn_e h
        have B25 : ∀ (s25_0 : Int32) (ls : Array Slot) (hl : lv_has ls 4 [(0, .long x0), (3, .int z4_3)]) (h : j25 s25_0 = some w4), W p l e rm_mm_many s m args below meth c s.heap [] 0 0 Q (F0 m 25 ls [.int s25_0]) := by
          intro s25_0 ls hl h
          have h := mo_a1 ej25 h
          refine lv_istore_n (pc := 25) (lv' := [(2, .int s25_0), (0, .long x0), (3, .int z4_3)]) hx hb d_mm_many_25 rfl hl (by decide) rfl (fun ls hl => ?_)
          refine lv_iinc (pc := 26) (k := 2) (v := z4_3 + 1) (lv' := [(3, .int (z4_3 + 1)), (2, .int s25_0), (0, .long x0)]) hx hb d_mm_many_26 hl rfl (mo_inc1 _) (by decide) rfl (fun ls hl => ?_)
          refine lv_goto (pc := 29) (tgt := 4) hx hb d_mm_many_29 rfl ?_
          exact hb4 (s25_0, z4_3 + 1) h _ (lv_sub hl [2, 1, 0] rfl)
        refine lv_if_eq (pc := 15) (tgt := 24) hx hb d_mm_many_15 rfl (fun hc => ?_) (fun hc => ?_)
        · have h := mo_t hc h
          refine lv_iload_n (pc := 24) hx hb d_mm_many_24 rfl (lv_at hl 1 rfl) ?_
          exact B25 z4_2 _ (lv_sub hl [0, 2] rfl) h
        · have h := mo_f hc h
          refine lv_iload_n (pc := 18) hx hb d_mm_many_18 rfl (lv_at hl 1 rfl) ?_
          refine lv_iconst (pc := 19) (v := 1) hx hb d_mm_many_19 (by decide) ?_
          refine lv_iadd (pc := 20) hx hb d_mm_many_20 ?_
          refine lv_goto (pc := 21) (tgt := 25) hx hb d_mm_many_21 rfl ?_
          exact B25 (z4_2 + 1) _ (lv_sub hl [0, 2] rfl) h
    ) _ _ hy4 _ (lv_sub hl [2, 1, 0] rfl)
set_option maxRecDepth 100000 in
set_option maxHeartbeats 4000000 in
theorem c_mm_work (l : Launch) (D : va_G) (cI cL cZ : ClassId) (a_this : Nat) (a_past : Nat) (a_score : Nat) (a_hash : Nat) (a_selected : Nat) (a_blues : Nat) (a_merged : Nat) (a_inputs : Nat) (a_outputs : Nat) (a_source : Nat) (a_index : Nat) (a_secret : Nat) (a_lock : Nat) (a_amount : Nat) (a_id : Nat) (a_parents : Nat) (a_parent : Nat) (a_holds : Nat) (a_held : Nat) (a_blockLock : Nat) (a_orphan : Nat) (a_pool : Nat) (a_order : Nat) (a_accepted : Nat) (a_free : Nat) (a_coin : Nat) (a_worth : Nat) (v_limit : Int32) (v_made : Int32) (v_blocks : Int32) (v_dag : Int64) (v_orphans : Int32) (v_pooled : Int32) (v_places : Int32) (f_past : Nat → Int64) (f_score : Nat → Int32) (f_hash : Nat → Int32) (f_selected : Nat → Int32) (f_blues : Nat → Int64) (f_merged : Nat → Int32) (x1 : Int32) (x2 : Int64) (o : (Nat → Int64) × (Nat → Int32) × (Nat → Int32) × (Nat → Int64) × (Nat → Int32)) (h : m_mm_work v_limit f_past f_score f_hash f_selected f_blues f_merged x1 x2 = some o) : Met l y_mm_work (Cond.code y_mm_work b_mm_work 11 none :: WG) rm_mm_work (va_Pc [.ref a_this, .int x1, .long x2] (mo_Pm D [(cI, .int), (cL, .long), (cZ, .boolean)] [(a_this, .inr (7, [.int v_limit, .int v_made, .ref a_inputs, .ref a_outputs, .ref a_source, .ref a_index, .ref a_secret, .ref a_lock, .ref a_amount, .ref a_id, .int v_blocks, .ref a_parents, .ref a_parent, .ref a_holds, .ref a_held, .ref a_blockLock, .ref a_hash, .long v_dag, .ref a_past, .ref a_blues, .ref a_score, .ref a_selected, .int v_orphans, .ref a_orphan, .int v_pooled, .ref a_pool, .int v_places, .ref a_order, .ref a_merged, .ref a_accepted, .ref a_free, .ref a_coin, .ref a_worth])), (a_past, .inl (cL, 61, .inr (.inl f_past))), (a_score, .inl (cI, 61, .inl f_score)), (a_hash, .inl (cI, 62, .inl f_hash)), (a_selected, .inl (cI, 61, .inl f_selected)), (a_blues, .inl (cL, 61, .inr (.inl f_blues))), (a_merged, .inl (cI, 64, .inl f_merged))])) (mo_Qm D [(a_this, .inr (7, [.int v_limit, .int v_made, .ref a_inputs, .ref a_outputs, .ref a_source, .ref a_index, .ref a_secret, .ref a_lock, .ref a_amount, .ref a_id, .int v_blocks, .ref a_parents, .ref a_parent, .ref a_holds, .ref a_held, .ref a_blockLock, .ref a_hash, .long v_dag, .ref a_past, .ref a_blues, .ref a_score, .ref a_selected, .int v_orphans, .ref a_orphan, .int v_pooled, .ref a_pool, .int v_places, .ref a_order, .ref a_merged, .ref a_accepted, .ref a_free, .ref a_coin, .ref a_worth])), (a_past, .inl (cL, 61, .inr (.inl f_past))), (a_score, .inl (cI, 61, .inl f_score)), (a_hash, .inl (cI, 62, .inl f_hash)), (a_selected, .inl (cI, 61, .inl f_selected)), (a_blues, .inl (cL, 61, .inr (.inl f_blues))), (a_merged, .inl (cI, 64, .inl f_merged))] (fun (o : (Nat → Int64) × (Nat → Int32) × (Nat → Int32) × (Nat → Int64) × (Nat → Int32)) => [(a_this, .inr (7, [.int v_limit, .int v_made, .ref a_inputs, .ref a_outputs, .ref a_source, .ref a_index, .ref a_secret, .ref a_lock, .ref a_amount, .ref a_id, .int v_blocks, .ref a_parents, .ref a_parent, .ref a_holds, .ref a_held, .ref a_blockLock, .ref a_hash, .long v_dag, .ref a_past, .ref a_blues, .ref a_score, .ref a_selected, .int v_orphans, .ref a_orphan, .int v_pooled, .ref a_pool, .int v_places, .ref a_order, .ref a_merged, .ref a_accepted, .ref a_free, .ref a_coin, .ref a_worth])), (a_past, .inl (cL, 61, .inr (.inl o.1))), (a_score, .inl (cI, 61, .inl o.2.1)), (a_hash, .inl (cI, 62, .inl f_hash)), (a_selected, .inl (cI, 61, .inl o.2.2.1)), (a_blues, .inl (cL, 61, .inr (.inl o.2.2.2.1))), (a_merged, .inl (cI, 64, .inl o.2.2.2.2))]) (fun (o : (Nat → Int64) × (Nat → Int32) × (Nat → Int32) × (Nat → Int64) × (Nat → Int32)) => none) o) 0 0 (mo_A [(a_this, .inr (7, [.int v_limit, .int v_made, .ref a_inputs, .ref a_outputs, .ref a_source, .ref a_index, .ref a_secret, .ref a_lock, .ref a_amount, .ref a_id, .int v_blocks, .ref a_parents, .ref a_parent, .ref a_holds, .ref a_held, .ref a_blockLock, .ref a_hash, .long v_dag, .ref a_past, .ref a_blues, .ref a_score, .ref a_selected, .int v_orphans, .ref a_orphan, .int v_pooled, .ref a_pool, .int v_places, .ref a_order, .ref a_merged, .ref a_accepted, .ref a_free, .ref a_coin, .ref a_worth])), (a_past, .inl (cL, 61, .inr (.inl f_past))), (a_score, .inl (cI, 61, .inl f_score)), (a_hash, .inl (cI, 62, .inl f_hash)), (a_selected, .inl (cI, 61, .inl f_selected)), (a_blues, .inl (cL, 61, .inr (.inl f_blues))), (a_merged, .inl (cI, 64, .inl f_merged))]) := by
  refine mo_start (by decide) (Nat.le_of_ble_eq_true rfl) ?_
  intro p e s m args below meth c hx hb hr hlocks hml hown hw hv ls hl Q hQ
  obtain ⟨hP, hK, hN, hD0⟩ := hv
  have hl : lv_has ls 11 [(0, .ref a_this), (1, .int x1), (2, .long x2)] := hl
  obtain ⟨A, hA2⟩ : ∃ A, A = mo_A [(a_this, .inr (7, [.int v_limit, .int v_made, .ref a_inputs, .ref a_outputs, .ref a_source, .ref a_index, .ref a_secret, .ref a_lock, .ref a_amount, .ref a_id, .int v_blocks, .ref a_parents, .ref a_parent, .ref a_holds, .ref a_held, .ref a_blockLock, .ref a_hash, .long v_dag, .ref a_past, .ref a_blues, .ref a_score, .ref a_selected, .int v_orphans, .ref a_orphan, .int v_pooled, .ref a_pool, .int v_places, .ref a_order, .ref a_merged, .ref a_accepted, .ref a_free, .ref a_coin, .ref a_worth])), (a_past, .inl (cL, 61, .inr (.inl f_past))), (a_score, .inl (cI, 61, .inl f_score)), (a_hash, .inl (cI, 62, .inl f_hash)), (a_selected, .inl (cI, 61, .inl f_selected)), (a_blues, .inl (cL, 61, .inr (.inl f_blues))), (a_merged, .inl (cI, 64, .inl f_merged))] := ⟨_, rfl⟩
  have hD : va_D A [(a_this, .inr (7, [.int v_limit, .int v_made, .ref a_inputs, .ref a_outputs, .ref a_source, .ref a_index, .ref a_secret, .ref a_lock, .ref a_amount, .ref a_id, .int v_blocks, .ref a_parents, .ref a_parent, .ref a_holds, .ref a_held, .ref a_blockLock, .ref a_hash, .long v_dag, .ref a_past, .ref a_blues, .ref a_score, .ref a_selected, .int v_orphans, .ref a_orphan, .int v_pooled, .ref a_pool, .int v_places, .ref a_order, .ref a_merged, .ref a_accepted, .ref a_free, .ref a_coin, .ref a_worth])), (a_past, .inl (cL, 61, .inr (.inl f_past))), (a_score, .inl (cI, 61, .inl f_score)), (a_hash, .inl (cI, 62, .inl f_hash)), (a_selected, .inl (cI, 61, .inl f_selected)), (a_blues, .inl (cL, 61, .inr (.inl f_blues))), (a_merged, .inl (cI, 64, .inl f_merged))] := hA2 ▸ mo_self hD0
  have hS : va_S A s.heap s.heap [] := va_S.rf
  unfold m_mm_work at h
  refine lv_iconst (pc := 0) (v := (-1)) hx hb d_mm_work_0 (by decide) ?_
  refine lv_istore (pc := 1) (lv' := [(4, .int ((-1))), (0, .ref a_this), (1, .int x1), (2, .long x2)]) hx hb d_mm_work_1 hl (by decide) rfl (fun ls hl => ?_)
  refine lv_lload_n (pc := 3) hx hb d_mm_work_3 rfl (lv_at hl 3 rfl) ?_
  refine lv_lstore (pc := 4) (lv' := [(5, .long x2), (4, .int ((-1))), (0, .ref a_this), (1, .int x1), (2, .long x2)]) hx hb d_mm_work_4 hl (by decide) rfl (fun ls hl => ?_)
  refine lv_iconst (pc := 6) (v := 0) hx hb d_mm_work_6 (by decide) ?_
  refine lv_istore (pc := 7) (lv' := [(7, .int 0), (5, .long x2), (4, .int ((-1))), (0, .ref a_this), (1, .int x1), (2, .long x2)]) hx hb d_mm_work_7 hl (by decide) rfl (fun ls hl => ?_)
  obtain ⟨w9, K9, eK9, hy9, hr9⟩ := mo_bd_k h
  have E9 : ∀ (y9_4 : Int32) (y9_5 : Int64) (ls : Array Slot) (H : Heap) (locs : List Loc) (hP : va_P D cl [(a_this, .inr (7, [.int v_limit, .int v_made, .ref a_inputs, .ref a_outputs, .ref a_source, .ref a_index, .ref a_secret, .ref a_lock, .ref a_amount, .ref a_id, .int v_blocks, .ref a_parents, .ref a_parent, .ref a_holds, .ref a_held, .ref a_blockLock, .ref a_hash, .long v_dag, .ref a_past, .ref a_blues, .ref a_score, .ref a_selected, .int v_orphans, .ref a_orphan, .int v_pooled, .ref a_pool, .int v_places, .ref a_order, .ref a_merged, .ref a_accepted, .ref a_free, .ref a_coin, .ref a_worth])), (a_past, .inl (cL, 61, .inr (.inl f_past))), (a_score, .inl (cI, 61, .inl f_score)), (a_hash, .inl (cI, 62, .inl f_hash)), (a_selected, .inl (cI, 61, .inl f_selected)), (a_blues, .inl (cL, 61, .inr (.inl f_blues))), (a_merged, .inl (cI, 64, .inl f_merged))] H) (hD : va_D A [(a_this, .inr (7, [.int v_limit, .int v_made, .ref a_inputs, .ref a_outputs, .ref a_source, .ref a_index, .ref a_secret, .ref a_lock, .ref a_amount, .ref a_id, .int v_blocks, .ref a_parents, .ref a_parent, .ref a_holds, .ref a_held, .ref a_blockLock, .ref a_hash, .long v_dag, .ref a_past, .ref a_blues, .ref a_score, .ref a_selected, .int v_orphans, .ref a_orphan, .int v_pooled, .ref a_pool, .int v_places, .ref a_order, .ref a_merged, .ref a_accepted, .ref a_free, .ref a_coin, .ref a_worth])), (a_past, .inl (cL, 61, .inr (.inl f_past))), (a_score, .inl (cI, 61, .inl f_score)), (a_hash, .inl (cI, 62, .inl f_hash)), (a_selected, .inl (cI, 61, .inl f_selected)), (a_blues, .inl (cL, 61, .inr (.inl f_blues))), (a_merged, .inl (cI, 64, .inl f_merged))]) (hS : va_S A s.heap H locs) (hl : lv_has ls 11 [(0, .ref a_this), (1, .int x1), (4, .int y9_4), (5, .long y9_5)]) (h : K9 (y9_4, y9_5) = some o), W p l e rm_mm_work s m args below meth c H locs 0 0 Q (F0 m 100 ls []) := by
    intro y9_4 y9_5 ls H locs hP hD hS hl h
    have h := mo_a1 eK9 h
    try dsimp only at h
    refine lv_aload_n (pc := 100) hx hb d_mm_work_100 rfl (lv_at hl 0 rfl) ?_
    refine gf_mm_60 (pc := 101) hx hb hw hN hown hK hP 0 rfl rfl d_mm_work_101 ?_
    refine lv_iload_n (pc := 104) hx hb d_mm_work_104 rfl (lv_at hl 1 rfl) ?_
    refine lv_lload (pc := 105) hx hb d_mm_work_105 (lv_at hl 3 rfl) ?_
    obtain ⟨g107, hi107, e107, h⟩ := mo_wL_e h
    refine mo_last (pc := 107) hx hb hK hP hD hS 1 1 rfl rfl hi107 e107 d_mm_work_107 (fun H locs hP hD hS => ?_)
    have hP : va_P D cl [(a_this, .inr (7, [.int v_limit, .int v_made, .ref a_inputs, .ref a_outputs, .ref a_source, .ref a_index, .ref a_secret, .ref a_lock, .ref a_amount, .ref a_id, .int v_blocks, .ref a_parents, .ref a_parent, .ref a_holds, .ref a_held, .ref a_blockLock, .ref a_hash, .long v_dag, .ref a_past, .ref a_blues, .ref a_score, .ref a_selected, .int v_orphans, .ref a_orphan, .int v_pooled, .ref a_pool, .int v_places, .ref a_order, .ref a_merged, .ref a_accepted, .ref a_free, .ref a_coin, .ref a_worth])), (a_past, .inl (cL, 61, .inr (.inl g107))), (a_score, .inl (cI, 61, .inl f_score)), (a_hash, .inl (cI, 62, .inl f_hash)), (a_selected, .inl (cI, 61, .inl f_selected)), (a_blues, .inl (cL, 61, .inr (.inl f_blues))), (a_merged, .inl (cI, 64, .inl f_merged))] H := hP
    have hD : va_D A [(a_this, .inr (7, [.int v_limit, .int v_made, .ref a_inputs, .ref a_outputs, .ref a_source, .ref a_index, .ref a_secret, .ref a_lock, .ref a_amount, .ref a_id, .int v_blocks, .ref a_parents, .ref a_parent, .ref a_holds, .ref a_held, .ref a_blockLock, .ref a_hash, .long v_dag, .ref a_past, .ref a_blues, .ref a_score, .ref a_selected, .int v_orphans, .ref a_orphan, .int v_pooled, .ref a_pool, .int v_places, .ref a_order, .ref a_merged, .ref a_accepted, .ref a_free, .ref a_coin, .ref a_worth])), (a_past, .inl (cL, 61, .inr (.inl g107))), (a_score, .inl (cI, 61, .inl f_score)), (a_hash, .inl (cI, 62, .inl f_hash)), (a_selected, .inl (cI, 61, .inl f_selected)), (a_blues, .inl (cL, 61, .inr (.inl f_blues))), (a_merged, .inl (cI, 64, .inl f_merged))] := hD
    refine lv_aload_n (pc := 108) hx hb d_mm_work_108 rfl (lv_at hl 0 rfl) ?_
    refine gf_mm_70 (pc := 109) hx hb hw hN hown hK hP 0 rfl rfl d_mm_work_109 ?_
    refine lv_iload_n (pc := 112) hx hb d_mm_work_112 rfl (lv_at hl 1 rfl) ?_
    refine lv_iload (pc := 113) hx hb d_mm_work_113 (lv_at hl 2 rfl) ?_
    obtain ⟨g115, hi115, e115, h⟩ := mo_wI_e h
    refine mo_iast (pc := 115) hx hb hK hP hD hS 4 0 rfl rfl hi115 e115 d_mm_work_115 (fun H locs hP hD hS => ?_)
    have hP : va_P D cl [(a_this, .inr (7, [.int v_limit, .int v_made, .ref a_inputs, .ref a_outputs, .ref a_source, .ref a_index, .ref a_secret, .ref a_lock, .ref a_amount, .ref a_id, .int v_blocks, .ref a_parents, .ref a_parent, .ref a_holds, .ref a_held, .ref a_blockLock, .ref a_hash, .long v_dag, .ref a_past, .ref a_blues, .ref a_score, .ref a_selected, .int v_orphans, .ref a_orphan, .int v_pooled, .ref a_pool, .int v_places, .ref a_order, .ref a_merged, .ref a_accepted, .ref a_free, .ref a_coin, .ref a_worth])), (a_past, .inl (cL, 61, .inr (.inl g107))), (a_score, .inl (cI, 61, .inl f_score)), (a_hash, .inl (cI, 62, .inl f_hash)), (a_selected, .inl (cI, 61, .inl g115)), (a_blues, .inl (cL, 61, .inr (.inl f_blues))), (a_merged, .inl (cI, 64, .inl f_merged))] H := hP
    have hD : va_D A [(a_this, .inr (7, [.int v_limit, .int v_made, .ref a_inputs, .ref a_outputs, .ref a_source, .ref a_index, .ref a_secret, .ref a_lock, .ref a_amount, .ref a_id, .int v_blocks, .ref a_parents, .ref a_parent, .ref a_holds, .ref a_held, .ref a_blockLock, .ref a_hash, .long v_dag, .ref a_past, .ref a_blues, .ref a_score, .ref a_selected, .int v_orphans, .ref a_orphan, .int v_pooled, .ref a_pool, .int v_places, .ref a_order, .ref a_merged, .ref a_accepted, .ref a_free, .ref a_coin, .ref a_worth])), (a_past, .inl (cL, 61, .inr (.inl g107))), (a_score, .inl (cI, 61, .inl f_score)), (a_hash, .inl (cI, 62, .inl f_hash)), (a_selected, .inl (cI, 61, .inl g115)), (a_blues, .inl (cL, 61, .inr (.inl f_blues))), (a_merged, .inl (cI, 64, .inl f_merged))] := hD
    refine lv_aload_n (pc := 116) hx hb d_mm_work_116 rfl (lv_at hl 0 rfl) ?_
    refine gf_mm_64 (pc := 117) hx hb hw hN hown hK hP 0 rfl rfl d_mm_work_117 ?_
    refine lv_iload (pc := 120) hx hb d_mm_work_120 (lv_at hl 2 rfl) ?_
    obtain ⟨v122, hi122, e122, h⟩ := mo_rL_e h
    refine mo_lald (pc := 122) hx hb hK hP 5 1 rfl rfl hi122 e122 d_mm_work_122 ?_
    refine lv_lconst (pc := 123) (v := 1) hx hb d_mm_work_123 (by decide) ?_
    refine lv_iload (pc := 124) hx hb d_mm_work_124 (lv_at hl 2 rfl) ?_
    refine lv_lshl (pc := 126) hx hb d_mm_work_126 rfl ?_
    refine lv_lor (pc := 127) hx hb d_mm_work_127 ?_
    refine lv_lstore (pc := 128) (lv' := [(7, .long (v122 ||| ((1 : Int64) <<< (y9_4.toInt64 &&& 63)))), (0, .ref a_this), (1, .int x1), (4, .int y9_4), (5, .long y9_5)]) hx hb d_mm_work_128 hl (by decide) rfl (fun ls hl => ?_)
    refine lv_aload_n (pc := 130) hx hb d_mm_work_130 rfl (lv_at hl 1 rfl) ?_
    refine lv_iload_n (pc := 131) hx hb d_mm_work_131 rfl (lv_at hl 2 rfl) ?_
    obtain ⟨⟨r132, r132_0⟩, hr132, h⟩ := mo_bd_e h
    try dsimp only at h
    refine mo_mV (pc := 132) (As := [.int x1]) (rest := []) (st1 := [.int r132]) ⟨hx, hb, hml, hown, hw⟩ (c_mm_merge l D cI cL cZ a_this a_past a_selected a_score a_hash a_merged a_inputs a_outputs a_source a_index a_secret a_lock a_amount a_id a_parents a_parent a_holds a_held a_blockLock a_blues a_orphan a_pool a_order a_accepted a_free a_coin a_worth v_limit v_made v_blocks v_dag v_orphans v_pooled v_places g107 g115 f_score f_hash f_merged x1 (r132, r132_0) hr132) (kV_mm_135 hw ⟨by decide, by decide⟩) hP hD hS hK hN [0, 1, 4, 2, 3, 6] [some 0, some 1, some 3, some 4, some 2, none, some 5] rfl rfl rfl rfl rfl rfl rfl hl.1 rfl rfl d_mm_work_132 rfl (fun H locs hP hD hS => ?_)
    have hP : va_P D cl [(a_this, .inr (7, [.int v_limit, .int v_made, .ref a_inputs, .ref a_outputs, .ref a_source, .ref a_index, .ref a_secret, .ref a_lock, .ref a_amount, .ref a_id, .int v_blocks, .ref a_parents, .ref a_parent, .ref a_holds, .ref a_held, .ref a_blockLock, .ref a_hash, .long v_dag, .ref a_past, .ref a_blues, .ref a_score, .ref a_selected, .int v_orphans, .ref a_orphan, .int v_pooled, .ref a_pool, .int v_places, .ref a_order, .ref a_merged, .ref a_accepted, .ref a_free, .ref a_coin, .ref a_worth])), (a_past, .inl (cL, 61, .inr (.inl g107))), (a_score, .inl (cI, 61, .inl f_score)), (a_hash, .inl (cI, 62, .inl f_hash)), (a_selected, .inl (cI, 61, .inl g115)), (a_blues, .inl (cL, 61, .inr (.inl f_blues))), (a_merged, .inl (cI, 64, .inl r132_0))] H := hP
    have hD : va_D A [(a_this, .inr (7, [.int v_limit, .int v_made, .ref a_inputs, .ref a_outputs, .ref a_source, .ref a_index, .ref a_secret, .ref a_lock, .ref a_amount, .ref a_id, .int v_blocks, .ref a_parents, .ref a_parent, .ref a_holds, .ref a_held, .ref a_blockLock, .ref a_hash, .long v_dag, .ref a_past, .ref a_blues, .ref a_score, .ref a_selected, .int v_orphans, .ref a_orphan, .int v_pooled, .ref a_pool, .int v_places, .ref a_order, .ref a_merged, .ref a_accepted, .ref a_free, .ref a_coin, .ref a_worth])), (a_past, .inl (cL, 61, .inr (.inl g107))), (a_score, .inl (cI, 61, .inl f_score)), (a_hash, .inl (cI, 62, .inl f_hash)), (a_selected, .inl (cI, 61, .inl g115)), (a_blues, .inl (cL, 61, .inr (.inl f_blues))), (a_merged, .inl (cI, 64, .inl r132_0))] := hD
    refine lv_istore (pc := 135) (lv' := [(9, .int r132), (7, .long (v122 ||| ((1 : Int64) <<< (y9_4.toInt64 &&& 63)))), (0, .ref a_this), (1, .int x1), (4, .int y9_4), (5, .long y9_5)]) hx hb d_mm_work_135 hl (by decide) rfl (fun ls hl => ?_)
    refine lv_iconst (pc := 137) (v := 0) hx hb d_mm_work_137 (by decide) ?_
    refine lv_istore (pc := 138) (lv' := [(10, .int 0), (9, .int r132), (7, .long (v122 ||| ((1 : Int64) <<< (y9_4.toInt64 &&& 63)))), (0, .ref a_this), (1, .int x1), (4, .int y9_4), (5, .long y9_5)]) hx hb d_mm_work_138 hl (by decide) rfl (fun ls hl => ?_)
    obtain ⟨w140, K140, eK140, hy140, hr140⟩ := mo_bd_k h
    have E140 : ∀ (y140_7 : Int64) (ls : Array Slot) (H : Heap) (locs : List Loc) (hP : va_P D cl [(a_this, .inr (7, [.int v_limit, .int v_made, .ref a_inputs, .ref a_outputs, .ref a_source, .ref a_index, .ref a_secret, .ref a_lock, .ref a_amount, .ref a_id, .int v_blocks, .ref a_parents, .ref a_parent, .ref a_holds, .ref a_held, .ref a_blockLock, .ref a_hash, .long v_dag, .ref a_past, .ref a_blues, .ref a_score, .ref a_selected, .int v_orphans, .ref a_orphan, .int v_pooled, .ref a_pool, .int v_places, .ref a_order, .ref a_merged, .ref a_accepted, .ref a_free, .ref a_coin, .ref a_worth])), (a_past, .inl (cL, 61, .inr (.inl g107))), (a_score, .inl (cI, 61, .inl f_score)), (a_hash, .inl (cI, 62, .inl f_hash)), (a_selected, .inl (cI, 61, .inl g115)), (a_blues, .inl (cL, 61, .inr (.inl f_blues))), (a_merged, .inl (cI, 64, .inl r132_0))] H) (hD : va_D A [(a_this, .inr (7, [.int v_limit, .int v_made, .ref a_inputs, .ref a_outputs, .ref a_source, .ref a_index, .ref a_secret, .ref a_lock, .ref a_amount, .ref a_id, .int v_blocks, .ref a_parents, .ref a_parent, .ref a_holds, .ref a_held, .ref a_blockLock, .ref a_hash, .long v_dag, .ref a_past, .ref a_blues, .ref a_score, .ref a_selected, .int v_orphans, .ref a_orphan, .int v_pooled, .ref a_pool, .int v_places, .ref a_order, .ref a_merged, .ref a_accepted, .ref a_free, .ref a_coin, .ref a_worth])), (a_past, .inl (cL, 61, .inr (.inl g107))), (a_score, .inl (cI, 61, .inl f_score)), (a_hash, .inl (cI, 62, .inl f_hash)), (a_selected, .inl (cI, 61, .inl g115)), (a_blues, .inl (cL, 61, .inr (.inl f_blues))), (a_merged, .inl (cI, 64, .inl r132_0))]) (hS : va_S A s.heap H locs) (hl : lv_has ls 11 [(0, .ref a_this), (1, .int x1), (7, .long y140_7)]) (h : K140 y140_7 = some o), W p l e rm_mm_work s m args below meth c H locs 0 0 Q (F0 m 186 ls []) := by
      intro y140_7 ls H locs hP hD hS hl h
      have h := mo_a1 eK140 h
      try dsimp only at h
      refine lv_aload_n (pc := 186) hx hb d_mm_work_186 rfl (lv_at hl 0 rfl) ?_
      refine gf_mm_64 (pc := 187) hx hb hw hN hown hK hP 0 rfl rfl d_mm_work_187 ?_
      refine lv_iload_n (pc := 190) hx hb d_mm_work_190 rfl (lv_at hl 1 rfl) ?_
      refine lv_lload (pc := 191) hx hb d_mm_work_191 (lv_at hl 2 rfl) ?_
      obtain ⟨g193, hi193, e193, h⟩ := mo_wL_e h
      refine mo_last (pc := 193) hx hb hK hP hD hS 5 1 rfl rfl hi193 e193 d_mm_work_193 (fun H locs hP hD hS => ?_)
      have hP : va_P D cl [(a_this, .inr (7, [.int v_limit, .int v_made, .ref a_inputs, .ref a_outputs, .ref a_source, .ref a_index, .ref a_secret, .ref a_lock, .ref a_amount, .ref a_id, .int v_blocks, .ref a_parents, .ref a_parent, .ref a_holds, .ref a_held, .ref a_blockLock, .ref a_hash, .long v_dag, .ref a_past, .ref a_blues, .ref a_score, .ref a_selected, .int v_orphans, .ref a_orphan, .int v_pooled, .ref a_pool, .int v_places, .ref a_order, .ref a_merged, .ref a_accepted, .ref a_free, .ref a_coin, .ref a_worth])), (a_past, .inl (cL, 61, .inr (.inl g107))), (a_score, .inl (cI, 61, .inl f_score)), (a_hash, .inl (cI, 62, .inl f_hash)), (a_selected, .inl (cI, 61, .inl g115)), (a_blues, .inl (cL, 61, .inr (.inl g193))), (a_merged, .inl (cI, 64, .inl r132_0))] H := hP
      have hD : va_D A [(a_this, .inr (7, [.int v_limit, .int v_made, .ref a_inputs, .ref a_outputs, .ref a_source, .ref a_index, .ref a_secret, .ref a_lock, .ref a_amount, .ref a_id, .int v_blocks, .ref a_parents, .ref a_parent, .ref a_holds, .ref a_held, .ref a_blockLock, .ref a_hash, .long v_dag, .ref a_past, .ref a_blues, .ref a_score, .ref a_selected, .int v_orphans, .ref a_orphan, .int v_pooled, .ref a_pool, .int v_places, .ref a_order, .ref a_merged, .ref a_accepted, .ref a_free, .ref a_coin, .ref a_worth])), (a_past, .inl (cL, 61, .inr (.inl g107))), (a_score, .inl (cI, 61, .inl f_score)), (a_hash, .inl (cI, 62, .inl f_hash)), (a_selected, .inl (cI, 61, .inl g115)), (a_blues, .inl (cL, 61, .inr (.inl g193))), (a_merged, .inl (cI, 64, .inl r132_0))] := hD
      refine lv_aload_n (pc := 194) hx hb d_mm_work_194 rfl (lv_at hl 0 rfl) ?_
      refine gf_mm_67 (pc := 195) hx hb hw hN hown hK hP 0 rfl rfl d_mm_work_195 ?_
      refine lv_iload_n (pc := 198) hx hb d_mm_work_198 rfl (lv_at hl 1 rfl) ?_
      refine lv_lload (pc := 199) hx hb d_mm_work_199 (lv_at hl 2 rfl) ?_
      obtain ⟨r201, hr201, h⟩ := mo_bd_e h
      refine mo_rS (pc := 201) (As := [.long y140_7]) (rest := [.int x1, .ref a_score]) (st1 := [.int r201, .int x1, .ref a_score]) ⟨hx, hb, hml, hown, hw⟩ (c_mm_many l D cI cL cZ y140_7 r201 hr201) (kS_mm_143 hw ⟨by decide, by decide⟩) mo_P0 hK hN rfl hl.1 rfl rfl d_mm_work_201 rfl ?_
      obtain ⟨g204, hi204, e204, h⟩ := mo_wI_e h
      refine mo_iast (pc := 204) hx hb hK hP hD hS 2 0 rfl rfl hi204 e204 d_mm_work_204 (fun H locs hP hD hS => ?_)
      have hP : va_P D cl [(a_this, .inr (7, [.int v_limit, .int v_made, .ref a_inputs, .ref a_outputs, .ref a_source, .ref a_index, .ref a_secret, .ref a_lock, .ref a_amount, .ref a_id, .int v_blocks, .ref a_parents, .ref a_parent, .ref a_holds, .ref a_held, .ref a_blockLock, .ref a_hash, .long v_dag, .ref a_past, .ref a_blues, .ref a_score, .ref a_selected, .int v_orphans, .ref a_orphan, .int v_pooled, .ref a_pool, .int v_places, .ref a_order, .ref a_merged, .ref a_accepted, .ref a_free, .ref a_coin, .ref a_worth])), (a_past, .inl (cL, 61, .inr (.inl g107))), (a_score, .inl (cI, 61, .inl g204)), (a_hash, .inl (cI, 62, .inl f_hash)), (a_selected, .inl (cI, 61, .inl g115)), (a_blues, .inl (cL, 61, .inr (.inl g193))), (a_merged, .inl (cI, 64, .inl r132_0))] H := hP
      have hD : va_D A [(a_this, .inr (7, [.int v_limit, .int v_made, .ref a_inputs, .ref a_outputs, .ref a_source, .ref a_index, .ref a_secret, .ref a_lock, .ref a_amount, .ref a_id, .int v_blocks, .ref a_parents, .ref a_parent, .ref a_holds, .ref a_held, .ref a_blockLock, .ref a_hash, .long v_dag, .ref a_past, .ref a_blues, .ref a_score, .ref a_selected, .int v_orphans, .ref a_orphan, .int v_pooled, .ref a_pool, .int v_places, .ref a_order, .ref a_merged, .ref a_accepted, .ref a_free, .ref a_coin, .ref a_worth])), (a_past, .inl (cL, 61, .inr (.inl g107))), (a_score, .inl (cI, 61, .inl g204)), (a_hash, .inl (cI, 62, .inl f_hash)), (a_selected, .inl (cI, 61, .inl g115)), (a_blues, .inl (cL, 61, .inr (.inl g193))), (a_merged, .inl (cI, 64, .inl r132_0))] := hD
      exact mo_retVm hx hb hr hlocks hQ hA2 h hP hS d_mm_work_205 rfl
    exact mo_lp_i (step := (m_mm_work_L140 v_limit g107 r132 r132_0)) (o := w140) (fun (x : Int64 × Int32) => match x with | (z140_7, z140_10) => ∀ (ls : Array Slot) (H : Heap) (locs : List Loc) (hP : va_P D cl [(a_this, .inr (7, [.int v_limit, .int v_made, .ref a_inputs, .ref a_outputs, .ref a_source, .ref a_index, .ref a_secret, .ref a_lock, .ref a_amount, .ref a_id, .int v_blocks, .ref a_parents, .ref a_parent, .ref a_holds, .ref a_held, .ref a_blockLock, .ref a_hash, .long v_dag, .ref a_past, .ref a_blues, .ref a_score, .ref a_selected, .int v_orphans, .ref a_orphan, .int v_pooled, .ref a_pool, .int v_places, .ref a_order, .ref a_merged, .ref a_accepted, .ref a_free, .ref a_coin, .ref a_worth])), (a_past, .inl (cL, 61, .inr (.inl g107))), (a_score, .inl (cI, 61, .inl f_score)), (a_hash, .inl (cI, 62, .inl f_hash)), (a_selected, .inl (cI, 61, .inl g115)), (a_blues, .inl (cL, 61, .inr (.inl f_blues))), (a_merged, .inl (cI, 64, .inl r132_0))] H) (hD : va_D A [(a_this, .inr (7, [.int v_limit, .int v_made, .ref a_inputs, .ref a_outputs, .ref a_source, .ref a_index, .ref a_secret, .ref a_lock, .ref a_amount, .ref a_id, .int v_blocks, .ref a_parents, .ref a_parent, .ref a_holds, .ref a_held, .ref a_blockLock, .ref a_hash, .long v_dag, .ref a_past, .ref a_blues, .ref a_score, .ref a_selected, .int v_orphans, .ref a_orphan, .int v_pooled, .ref a_pool, .int v_places, .ref a_order, .ref a_merged, .ref a_accepted, .ref a_free, .ref a_coin, .ref a_worth])), (a_past, .inl (cL, 61, .inr (.inl g107))), (a_score, .inl (cI, 61, .inl f_score)), (a_hash, .inl (cI, 62, .inl f_hash)), (a_selected, .inl (cI, 61, .inl g115)), (a_blues, .inl (cL, 61, .inr (.inl f_blues))), (a_merged, .inl (cI, 64, .inl r132_0))]) (hS : va_S A s.heap H locs) (hl : lv_has ls 11 [(0, .ref a_this), (1, .int x1), (7, .long z140_7), (9, .int r132), (10, .int z140_10)]), W p l e rm_mm_work s m args below meth c H locs 0 0 Q (F0 m 140 ls [])) (by
        rintro bk140 hb140 ⟨z140_7, z140_10⟩ h ls H locs hP hD hS hl
        unfold m_mm_work_L140 at h
        try dsimp only at h
        refine lv_iload (pc := 140) hx hb d_mm_work_140 (lv_at hl 4 rfl) ?_
        refine lv_iload (pc := 142) hx hb d_mm_work_142 (lv_at hl 3 rfl) ?_
        refine lv_icmp_ge (pc := 144) (tgt := 186) hx hb d_mm_work_144 rfl (fun hc => ?_) (fun hc => ?_)
        · have h := mo_t hc h
          exact E140 z140_7 _ _ _ hP hD hS (lv_sub hl [0, 1, 2] rfl) (by rw [Option.some.inj h]; exact hr140)
        · have h := mo_f hc h
          refine lv_aload_n (pc := 147) hx hb d_mm_work_147 rfl (lv_at hl 0 rfl) ?_
          refine lv_lload (pc := 148) hx hb d_mm_work_148 (lv_at hl 2 rfl) ?_
          refine lv_lconst (pc := 150) (v := 1) hx hb d_mm_work_150 (by decide) ?_
          refine lv_aload_n (pc := 151) hx hb d_mm_work_151 rfl (lv_at hl 0 rfl) ?_
          refine gf_mm_82 (pc := 152) hx hb hw hN hown hK hP 0 rfl rfl d_mm_work_152 ?_
          refine lv_iload (pc := 155) hx hb d_mm_work_155 (lv_at hl 4 rfl) ?_
          obtain ⟨v157, hi157, e157, h⟩ := mo_rI_e h
          refine mo_iald (pc := 157) hx hb hK hP 6 0 rfl rfl hi157 e157 d_mm_work_157 ?_
          refine lv_lshl (pc := 158) hx hb d_mm_work_158 rfl ?_
          refine lv_lor (pc := 159) hx hb d_mm_work_159 ?_
          obtain ⟨r160, hr160, h⟩ := mo_bd_e h
          refine mo_rV (pc := 160) (As := [.long (z140_7 ||| ((1 : Int64) <<< (v157.toInt64 &&& 63)))]) (rest := []) (st1 := [.int r160]) ⟨hx, hb, hml, hown, hw⟩ (c_mm_goes l D cI cL cZ a_this a_past a_inputs a_outputs a_source a_index a_secret a_lock a_amount a_id a_parents a_parent a_holds a_held a_blockLock a_hash a_blues a_score a_selected a_orphan a_pool a_order a_merged a_accepted a_free a_coin a_worth v_limit v_made v_blocks v_dag v_orphans v_pooled v_places g107 (z140_7 ||| ((1 : Int64) <<< (v157.toInt64 &&& 63))) r160 hr160) (kV_mm_139 hw ⟨by decide, by decide⟩) (hP.sub [0, 1] rfl) hK hN rfl rfl rfl hl.1 rfl rfl d_mm_work_160 rfl ?_
          obtain ⟨j180, ej180, h⟩ := mo_jn_e h
          have B180 : ∀ (y180_7 : Int64) (ls : Array Slot) (H : Heap) (locs : List Loc) (hP : va_P D cl [(a_this, .inr (7, [.int v_limit, .int v_made, .ref a_inputs, .ref a_outputs, .ref a_source, .ref a_index, .ref a_secret, .ref a_lock, .ref a_amount, .ref a_id, .int v_blocks, .ref a_parents, .ref a_parent, .ref a_holds, .ref a_held, .ref a_blockLock, .ref a_hash, .long v_dag, .ref a_past, .ref a_blues, .ref a_score, .ref a_selected, .int v_orphans, .ref a_orphan, .int v_pooled, .ref a_pool, .int v_places, .ref a_order, .ref a_merged, .ref a_accepted, .ref a_free, .ref a_coin, .ref a_worth])), (a_past, .inl (cL, 61, .inr (.inl g107))), (a_score, .inl (cI, 61, .inl f_score)), (a_hash, .inl (cI, 62, .inl f_hash)), (a_selected, .inl (cI, 61, .inl g115)), (a_blues, .inl (cL, 61, .inr (.inl f_blues))), (a_merged, .inl (cI, 64, .inl r132_0))] H) (hD : va_D A [(a_this, .inr (7, [.int v_limit, .int v_made, .ref a_inputs, .ref a_outputs, .ref a_source, .ref a_index, .ref a_secret, .ref a_lock, .ref a_amount, .ref a_id, .int v_blocks, .ref a_parents, .ref a_parent, .ref a_holds, .ref a_held, .ref a_blockLock, .ref a_hash, .long v_dag, .ref a_past, .ref a_blues, .ref a_score, .ref a_selected, .int v_orphans, .ref a_orphan, .int v_pooled, .ref a_pool, .int v_places, .ref a_order, .ref a_merged, .ref a_accepted, .ref a_free, .ref a_coin, .ref a_worth])), (a_past, .inl (cL, 61, .inr (.inl g107))), (a_score, .inl (cI, 61, .inl f_score)), (a_hash, .inl (cI, 62, .inl f_hash)), (a_selected, .inl (cI, 61, .inl g115)), (a_blues, .inl (cL, 61, .inr (.inl f_blues))), (a_merged, .inl (cI, 64, .inl r132_0))]) (hS : va_S A s.heap H locs) (hl : lv_has ls 11 [(0, .ref a_this), (1, .int x1), (7, .long y180_7), (9, .int r132), (10, .int z140_10)]) (h : j180 y180_7 = some w140), W p l e rm_mm_work s m args below meth c H locs 0 0 Q (F0 m 180 ls []) := by
            intro y180_7 ls H locs hP hD hS hl h
            have h := mo_a1 ej180 h
            refine lv_iinc (pc := 180) (k := 4) (v := z140_10 + 1) (lv' := [(10, .int (z140_10 + 1)), (0, .ref a_this), (1, .int x1), (7, .long y180_7), (9, .int r132)]) hx hb d_mm_work_180 hl rfl (mo_inc1 _) (by decide) rfl (fun ls hl => ?_)
            refine lv_goto (pc := 183) (tgt := 140) hx hb d_mm_work_183 rfl ?_
            exact hb140 (y180_7, z140_10 + 1) h _ _ _ hP hD hS (lv_sub hl [1, 2, 3, 4, 0] rfl)
          refine lv_if_eq (pc := 163) (tgt := 180) hx hb d_mm_work_163 rfl (fun hc => ?_) (fun hc => ?_)
          · have h := mo_t hc h
            exact B180 z140_7 _ _ _ hP hD hS (lv_sub hl [0, 1, 2, 3, 4] rfl) h
          · have h := mo_f hc h
            refine lv_lload (pc := 166) hx hb d_mm_work_166 (lv_at hl 2 rfl) ?_
            refine lv_lconst (pc := 168) (v := 1) hx hb d_mm_work_168 (by decide) ?_
            refine lv_aload_n (pc := 169) hx hb d_mm_work_169 rfl (lv_at hl 0 rfl) ?_
            refine gf_mm_82 (pc := 170) hx hb hw hN hown hK hP 0 rfl rfl d_mm_work_170 ?_
            refine lv_iload (pc := 173) hx hb d_mm_work_173 (lv_at hl 4 rfl) ?_
            obtain ⟨v175, hi175, e175, h⟩ := mo_rI_e h
            refine mo_iald (pc := 175) hx hb hK hP 6 0 rfl rfl hi175 e175 d_mm_work_175 ?_
            refine lv_lshl (pc := 176) hx hb d_mm_work_176 rfl ?_
            refine lv_lor (pc := 177) hx hb d_mm_work_177 ?_
            refine lv_lstore (pc := 178) (lv' := [(7, .long (z140_7 ||| ((1 : Int64) <<< (v175.toInt64 &&& 63)))), (0, .ref a_this), (1, .int x1), (9, .int r132), (10, .int z140_10)]) hx hb d_mm_work_178 hl (by decide) rfl (fun ls hl => ?_)
            exact B180 (z140_7 ||| ((1 : Int64) <<< (v175.toInt64 &&& 63))) _ _ _ hP hD hS (lv_sub hl [1, 2, 0, 3, 4] rfl) h
      ) _ _ hy140 _ _ _ hP hD hS (lv_sub hl [3, 4, 2, 1, 0] rfl)
  exact mo_lp_i (step := (m_mm_work_L9 f_past f_score f_hash x2)) (o := w9) (fun (x : Int32 × Int64 × Int32) => match x with | (z9_4, z9_5, z9_7) => ∀ (ls : Array Slot) (H : Heap) (locs : List Loc) (hP : va_P D cl [(a_this, .inr (7, [.int v_limit, .int v_made, .ref a_inputs, .ref a_outputs, .ref a_source, .ref a_index, .ref a_secret, .ref a_lock, .ref a_amount, .ref a_id, .int v_blocks, .ref a_parents, .ref a_parent, .ref a_holds, .ref a_held, .ref a_blockLock, .ref a_hash, .long v_dag, .ref a_past, .ref a_blues, .ref a_score, .ref a_selected, .int v_orphans, .ref a_orphan, .int v_pooled, .ref a_pool, .int v_places, .ref a_order, .ref a_merged, .ref a_accepted, .ref a_free, .ref a_coin, .ref a_worth])), (a_past, .inl (cL, 61, .inr (.inl f_past))), (a_score, .inl (cI, 61, .inl f_score)), (a_hash, .inl (cI, 62, .inl f_hash)), (a_selected, .inl (cI, 61, .inl f_selected)), (a_blues, .inl (cL, 61, .inr (.inl f_blues))), (a_merged, .inl (cI, 64, .inl f_merged))] H) (hD : va_D A [(a_this, .inr (7, [.int v_limit, .int v_made, .ref a_inputs, .ref a_outputs, .ref a_source, .ref a_index, .ref a_secret, .ref a_lock, .ref a_amount, .ref a_id, .int v_blocks, .ref a_parents, .ref a_parent, .ref a_holds, .ref a_held, .ref a_blockLock, .ref a_hash, .long v_dag, .ref a_past, .ref a_blues, .ref a_score, .ref a_selected, .int v_orphans, .ref a_orphan, .int v_pooled, .ref a_pool, .int v_places, .ref a_order, .ref a_merged, .ref a_accepted, .ref a_free, .ref a_coin, .ref a_worth])), (a_past, .inl (cL, 61, .inr (.inl f_past))), (a_score, .inl (cI, 61, .inl f_score)), (a_hash, .inl (cI, 62, .inl f_hash)), (a_selected, .inl (cI, 61, .inl f_selected)), (a_blues, .inl (cL, 61, .inr (.inl f_blues))), (a_merged, .inl (cI, 64, .inl f_merged))]) (hS : va_S A s.heap H locs) (hl : lv_has ls 11 [(0, .ref a_this), (1, .int x1), (2, .long x2), (4, .int z9_4), (5, .long z9_5), (7, .int z9_7)]), W p l e rm_mm_work s m args below meth c H locs 0 0 Q (F0 m 9 ls [])) (by
      rintro bk9 hb9 ⟨z9_4, z9_5, z9_7⟩ h ls H locs hP hD hS hl
      unfold m_mm_work_L9 at h
      try dsimp only at h
      refine lv_iload (pc := 9) hx hb d_mm_work_9 (lv_at hl 5 rfl) ?_
      refine lv_bipush (pc := 11) (v := 60) hx hb d_mm_work_11 (by decide) ?_
      refine lv_icmp_ge (pc := 13) (tgt := 100) hx hb d_mm_work_13 rfl (fun hc => ?_) (fun hc => ?_)
      · have h := mo_t hc h
        exact E9 z9_4 z9_5 _ _ _ hP hD hS (lv_sub hl [0, 1, 3, 4] rfl) (by rw [Option.some.inj h]; exact hr9)
      · have h := mo_f hc h
        refine lv_lload_n (pc := 16) hx hb d_mm_work_16 rfl (lv_at hl 2 rfl) ?_
        refine lv_iload (pc := 17) hx hb d_mm_work_17 (lv_at hl 5 rfl) ?_
        obtain ⟨r19, hr19, h⟩ := mo_bd_e h
        refine mo_rS (pc := 19) (As := [.long x2, .int z9_7]) (rest := []) (st1 := [.int r19]) ⟨hx, hb, hml, hown, hw⟩ (c_mm_in l D cI cL cZ x2 z9_7 r19 hr19) (kS_mm_125 hw ⟨by decide, by decide⟩) mo_P0 hK hN rfl hl.1 rfl rfl d_mm_work_19 rfl ?_
        obtain ⟨j94, ej94, h⟩ := mo_jn_e h
        have B94 : ∀ (y94_4 : Int32) (y94_5 : Int64) (ls : Array Slot) (H : Heap) (locs : List Loc) (hP : va_P D cl [(a_this, .inr (7, [.int v_limit, .int v_made, .ref a_inputs, .ref a_outputs, .ref a_source, .ref a_index, .ref a_secret, .ref a_lock, .ref a_amount, .ref a_id, .int v_blocks, .ref a_parents, .ref a_parent, .ref a_holds, .ref a_held, .ref a_blockLock, .ref a_hash, .long v_dag, .ref a_past, .ref a_blues, .ref a_score, .ref a_selected, .int v_orphans, .ref a_orphan, .int v_pooled, .ref a_pool, .int v_places, .ref a_order, .ref a_merged, .ref a_accepted, .ref a_free, .ref a_coin, .ref a_worth])), (a_past, .inl (cL, 61, .inr (.inl f_past))), (a_score, .inl (cI, 61, .inl f_score)), (a_hash, .inl (cI, 62, .inl f_hash)), (a_selected, .inl (cI, 61, .inl f_selected)), (a_blues, .inl (cL, 61, .inr (.inl f_blues))), (a_merged, .inl (cI, 64, .inl f_merged))] H) (hD : va_D A [(a_this, .inr (7, [.int v_limit, .int v_made, .ref a_inputs, .ref a_outputs, .ref a_source, .ref a_index, .ref a_secret, .ref a_lock, .ref a_amount, .ref a_id, .int v_blocks, .ref a_parents, .ref a_parent, .ref a_holds, .ref a_held, .ref a_blockLock, .ref a_hash, .long v_dag, .ref a_past, .ref a_blues, .ref a_score, .ref a_selected, .int v_orphans, .ref a_orphan, .int v_pooled, .ref a_pool, .int v_places, .ref a_order, .ref a_merged, .ref a_accepted, .ref a_free, .ref a_coin, .ref a_worth])), (a_past, .inl (cL, 61, .inr (.inl f_past))), (a_score, .inl (cI, 61, .inl f_score)), (a_hash, .inl (cI, 62, .inl f_hash)), (a_selected, .inl (cI, 61, .inl f_selected)), (a_blues, .inl (cL, 61, .inr (.inl f_blues))), (a_merged, .inl (cI, 64, .inl f_merged))]) (hS : va_S A s.heap H locs) (hl : lv_has ls 11 [(0, .ref a_this), (1, .int x1), (2, .long x2), (4, .int y94_4), (5, .long y94_5), (7, .int z9_7)]) (h : j94 y94_4 y94_5 = some w9), W p l e rm_mm_work s m args below meth c H locs 0 0 Q (F0 m 94 ls []) := by
          intro y94_4 y94_5 ls H locs hP hD hS hl h
          have h := mo_a2 ej94 h
          refine lv_iinc (pc := 94) (k := 5) (v := z9_7 + 1) (lv' := [(7, .int (z9_7 + 1)), (0, .ref a_this), (1, .int x1), (2, .long x2), (4, .int y94_4), (5, .long y94_5)]) hx hb d_mm_work_94 hl rfl (mo_inc1 _) (by decide) rfl (fun ls hl => ?_)
          refine lv_goto (pc := 97) (tgt := 9) hx hb d_mm_work_97 rfl ?_
          exact hb9 (y94_4, y94_5, z9_7 + 1) h _ _ _ hP hD hS (lv_sub hl [1, 2, 3, 4, 5, 0] rfl)
        refine lv_if_ne (pc := 22) (tgt := 28) hx hb d_mm_work_22 rfl (fun hc => ?_) (fun hc => ?_)
        · have h := mo_f hc h
          refine lv_lload (pc := 28) hx hb d_mm_work_28 (lv_at hl 4 rfl) ?_
          refine lv_aload_n (pc := 30) hx hb d_mm_work_30 rfl (lv_at hl 0 rfl) ?_
          refine gf_mm_60 (pc := 31) hx hb hw hN hown hK hP 0 rfl rfl d_mm_work_31 ?_
          refine lv_iload (pc := 34) hx hb d_mm_work_34 (lv_at hl 5 rfl) ?_
          obtain ⟨v36, hi36, e36, h⟩ := mo_rL_e h
          refine mo_lald (pc := 36) hx hb hK hP 1 1 rfl rfl hi36 e36 d_mm_work_36 ?_
          refine lv_lor (pc := 37) hx hb d_mm_work_37 ?_
          refine lv_lstore (pc := 38) (lv' := [(5, .long (z9_5 ||| v36)), (0, .ref a_this), (1, .int x1), (2, .long x2), (4, .int z9_4), (7, .int z9_7)]) hx hb d_mm_work_38 hl (by decide) rfl (fun ls hl => ?_)
          refine lv_iload (pc := 40) hx hb d_mm_work_40 (lv_at hl 4 rfl) ?_
          obtain ⟨j90, ej90, h⟩ := mo_jn_e h
          have B90 : ∀ (ls : Array Slot) (H : Heap) (locs : List Loc) (hP : va_P D cl [(a_this, .inr (7, [.int v_limit, .int v_made, .ref a_inputs, .ref a_outputs, .ref a_source, .ref a_index, .ref a_secret, .ref a_lock, .ref a_amount, .ref a_id, .int v_blocks, .ref a_parents, .ref a_parent, .ref a_holds, .ref a_held, .ref a_blockLock, .ref a_hash, .long v_dag, .ref a_past, .ref a_blues, .ref a_score, .ref a_selected, .int v_orphans, .ref a_orphan, .int v_pooled, .ref a_pool, .int v_places, .ref a_order, .ref a_merged, .ref a_accepted, .ref a_free, .ref a_coin, .ref a_worth])), (a_past, .inl (cL, 61, .inr (.inl f_past))), (a_score, .inl (cI, 61, .inl f_score)), (a_hash, .inl (cI, 62, .inl f_hash)), (a_selected, .inl (cI, 61, .inl f_selected)), (a_blues, .inl (cL, 61, .inr (.inl f_blues))), (a_merged, .inl (cI, 64, .inl f_merged))] H) (hD : va_D A [(a_this, .inr (7, [.int v_limit, .int v_made, .ref a_inputs, .ref a_outputs, .ref a_source, .ref a_index, .ref a_secret, .ref a_lock, .ref a_amount, .ref a_id, .int v_blocks, .ref a_parents, .ref a_parent, .ref a_holds, .ref a_held, .ref a_blockLock, .ref a_hash, .long v_dag, .ref a_past, .ref a_blues, .ref a_score, .ref a_selected, .int v_orphans, .ref a_orphan, .int v_pooled, .ref a_pool, .int v_places, .ref a_order, .ref a_merged, .ref a_accepted, .ref a_free, .ref a_coin, .ref a_worth])), (a_past, .inl (cL, 61, .inr (.inl f_past))), (a_score, .inl (cI, 61, .inl f_score)), (a_hash, .inl (cI, 62, .inl f_hash)), (a_selected, .inl (cI, 61, .inl f_selected)), (a_blues, .inl (cL, 61, .inr (.inl f_blues))), (a_merged, .inl (cI, 64, .inl f_merged))]) (hS : va_S A s.heap H locs) (hl : lv_has ls 11 [(0, .ref a_this), (1, .int x1), (2, .long x2), (5, .long (z9_5 ||| v36)), (7, .int z9_7)]) (h : j90 = some w9), W p l e rm_mm_work s m args below meth c H locs 0 0 Q (F0 m 90 ls []) := by
            intro ls H locs hP hD hS hl h
            have h := mo_a0 ej90 h
            refine lv_iload (pc := 90) hx hb d_mm_work_90 (lv_at hl 4 rfl) ?_
            refine lv_istore (pc := 92) (lv' := [(4, .int z9_7), (0, .ref a_this), (1, .int x1), (2, .long x2), (5, .long (z9_5 ||| v36)), (7, .int z9_7)]) hx hb d_mm_work_92 hl (by decide) rfl (fun ls hl => ?_)
            exact B94 z9_7 (z9_5 ||| v36) _ _ _ hP hD hS (lv_sub hl [1, 2, 3, 0, 4, 5] rfl) h
          refine lv_if_lt (pc := 42) (tgt := 90) hx hb d_mm_work_42 rfl (fun hc => ?_) (fun hc => ?_)
          · have h := mo_t hc h
            exact B90 _ _ _ hP hD hS (lv_sub hl [1, 2, 3, 0, 5] rfl) h
          · have h := mo_f hc h
            refine lv_aload_n (pc := 45) hx hb d_mm_work_45 rfl (lv_at hl 1 rfl) ?_
            refine gf_mm_67 (pc := 46) hx hb hw hN hown hK hP 0 rfl rfl d_mm_work_46 ?_
            refine lv_iload (pc := 49) hx hb d_mm_work_49 (lv_at hl 5 rfl) ?_
            obtain ⟨v51, hi51, e51, h⟩ := mo_rI_e h
            refine mo_iald (pc := 51) hx hb hK hP 2 0 rfl rfl hi51 e51 d_mm_work_51 ?_
            refine lv_aload_n (pc := 52) hx hb d_mm_work_52 rfl (lv_at hl 1 rfl) ?_
            refine gf_mm_67 (pc := 53) hx hb hw hN hown hK hP 0 rfl rfl d_mm_work_53 ?_
            refine lv_iload (pc := 56) hx hb d_mm_work_56 (lv_at hl 4 rfl) ?_
            obtain ⟨v58, hi58, e58, h⟩ := mo_rI_e h
            refine mo_iald (pc := 58) hx hb hK hP 2 0 rfl rfl hi58 e58 d_mm_work_58 ?_
            refine lv_icmp_gt (pc := 59) (tgt := 90) hx hb d_mm_work_59 rfl (fun hc => ?_) (fun hc => ?_)
            · have h := mo_t hc h
              exact B90 _ _ _ hP hD hS (lv_sub hl [1, 2, 3, 0, 5] rfl) h
            · have h := mo_f hc h
              refine lv_aload_n (pc := 62) hx hb d_mm_work_62 rfl (lv_at hl 1 rfl) ?_
              refine gf_mm_67 (pc := 63) hx hb hw hN hown hK hP 0 rfl rfl d_mm_work_63 ?_
              refine lv_iload (pc := 66) hx hb d_mm_work_66 (lv_at hl 5 rfl) ?_
              obtain ⟨v68, hi68, e68, h⟩ := mo_rI_e h
              refine mo_iald (pc := 68) hx hb hK hP 2 0 rfl rfl hi68 e68 d_mm_work_68 ?_
              refine lv_aload_n (pc := 69) hx hb d_mm_work_69 rfl (lv_at hl 1 rfl) ?_
              refine gf_mm_67 (pc := 70) hx hb hw hN hown hK hP 0 rfl rfl d_mm_work_70 ?_
              refine lv_iload (pc := 73) hx hb d_mm_work_73 (lv_at hl 4 rfl) ?_
              obtain ⟨v75, hi75, e75, h⟩ := mo_rI_e h
              refine mo_iald (pc := 75) hx hb hK hP 2 0 rfl rfl hi75 e75 d_mm_work_75 ?_
              refine lv_icmp_ne (pc := 76) (tgt := 94) hx hb d_mm_work_76 rfl (fun hc => ?_) (fun hc => ?_)
              · have h := mo_f hc h
                exact B94 z9_4 (z9_5 ||| v36) _ _ _ hP hD hS (lv_sub hl [1, 2, 3, 4, 0, 5] rfl) h
              · have h := mo_t hc h
                refine lv_aload_n (pc := 79) hx hb d_mm_work_79 rfl (lv_at hl 1 rfl) ?_
                refine lv_iload (pc := 80) hx hb d_mm_work_80 (lv_at hl 5 rfl) ?_
                refine lv_iload (pc := 82) hx hb d_mm_work_82 (lv_at hl 4 rfl) ?_
                obtain ⟨r84, hr84, h⟩ := mo_bd_e h
                refine mo_rV (pc := 84) (As := [.int z9_7, .int z9_4]) (rest := []) (st1 := [.int r84]) ⟨hx, hb, hml, hown, hw⟩ (c_mm_earlier l D cI cL cZ a_this a_hash a_inputs a_outputs a_source a_index a_secret a_lock a_amount a_id a_parents a_parent a_holds a_held a_blockLock a_past a_blues a_score a_selected a_orphan a_pool a_order a_merged a_accepted a_free a_coin a_worth v_limit v_made v_blocks v_dag v_orphans v_pooled v_places f_hash z9_7 z9_4 r84 hr84) (kV_mm_131 hw ⟨by decide, by decide⟩) (hP.sub [0, 3] rfl) hK hN rfl rfl rfl hl.1 rfl rfl d_mm_work_84 rfl ?_
                refine lv_if_eq (pc := 87) (tgt := 94) hx hb d_mm_work_87 rfl (fun hc => ?_) (fun hc => ?_)
                · have h := mo_t hc h
                  exact B94 z9_4 (z9_5 ||| v36) _ _ _ hP hD hS (lv_sub hl [1, 2, 3, 4, 0, 5] rfl) h
                · have h := mo_f hc h
                  exact B90 _ _ _ hP hD hS (lv_sub hl [1, 2, 3, 0, 5] rfl) h
        · have h := mo_t hc h
          refine lv_goto (pc := 25) (tgt := 94) hx hb d_mm_work_25 rfl ?_
          exact B94 z9_4 z9_5 _ _ _ hP hD hS (lv_sub hl [0, 1, 2, 3, 4, 5] rfl) h
    ) _ _ hy9 _ _ _ hP hD hS (lv_sub hl [3, 4, 5, 2, 1, 0] rfl)
set_option maxRecDepth 100000 in
set_option maxHeartbeats 4000000 in
theorem c_mm_line (l : Launch) (D : va_G) (cI cL cZ : ClassId) (a_this : Nat) (a_selected : Nat) (a_past : Nat) (a_score : Nat) (a_hash : Nat) (a_merged : Nat) (a_order : Nat) (a_inputs : Nat) (a_outputs : Nat) (a_source : Nat) (a_index : Nat) (a_secret : Nat) (a_lock : Nat) (a_amount : Nat) (a_id : Nat) (a_parents : Nat) (a_parent : Nat) (a_holds : Nat) (a_held : Nat) (a_blockLock : Nat) (a_blues : Nat) (a_orphan : Nat) (a_pool : Nat) (a_accepted : Nat) (a_free : Nat) (a_coin : Nat) (a_worth : Nat) (v_limit : Int32) (v_made : Int32) (v_blocks : Int32) (v_dag : Int64) (v_orphans : Int32) (v_pooled : Int32) (v_places : Int32) (f_selected : Nat → Int32) (f_past : Nat → Int64) (f_score : Nat → Int32) (f_hash : Nat → Int32) (f_merged : Nat → Int32) (f_order : Nat → Int32) (o : Int32 × (Nat → Int32) × (Nat → Int32)) (h : m_mm_line v_dag v_places f_selected f_past f_score f_hash f_merged f_order = some o) : Met l y_mm_line (Cond.code y_mm_line b_mm_line 5 none :: WG) rm_mm_line (va_Pc [.ref a_this] (mo_Pm D [(cI, .int), (cL, .long), (cZ, .boolean)] [(a_this, .inr (7, [.int v_limit, .int v_made, .ref a_inputs, .ref a_outputs, .ref a_source, .ref a_index, .ref a_secret, .ref a_lock, .ref a_amount, .ref a_id, .int v_blocks, .ref a_parents, .ref a_parent, .ref a_holds, .ref a_held, .ref a_blockLock, .ref a_hash, .long v_dag, .ref a_past, .ref a_blues, .ref a_score, .ref a_selected, .int v_orphans, .ref a_orphan, .int v_pooled, .ref a_pool, .int v_places, .ref a_order, .ref a_merged, .ref a_accepted, .ref a_free, .ref a_coin, .ref a_worth])), (a_selected, .inl (cI, 61, .inl f_selected)), (a_past, .inl (cL, 61, .inr (.inl f_past))), (a_score, .inl (cI, 61, .inl f_score)), (a_hash, .inl (cI, 62, .inl f_hash)), (a_merged, .inl (cI, 64, .inl f_merged)), (a_order, .inl (cI, 64, .inl f_order))])) (mo_Qm D [(a_this, .inr (7, [.int v_limit, .int v_made, .ref a_inputs, .ref a_outputs, .ref a_source, .ref a_index, .ref a_secret, .ref a_lock, .ref a_amount, .ref a_id, .int v_blocks, .ref a_parents, .ref a_parent, .ref a_holds, .ref a_held, .ref a_blockLock, .ref a_hash, .long v_dag, .ref a_past, .ref a_blues, .ref a_score, .ref a_selected, .int v_orphans, .ref a_orphan, .int v_pooled, .ref a_pool, .int v_places, .ref a_order, .ref a_merged, .ref a_accepted, .ref a_free, .ref a_coin, .ref a_worth])), (a_selected, .inl (cI, 61, .inl f_selected)), (a_past, .inl (cL, 61, .inr (.inl f_past))), (a_score, .inl (cI, 61, .inl f_score)), (a_hash, .inl (cI, 62, .inl f_hash)), (a_merged, .inl (cI, 64, .inl f_merged)), (a_order, .inl (cI, 64, .inl f_order))] (fun (o : Int32 × (Nat → Int32) × (Nat → Int32)) => [(a_this, .inr (7, [.int v_limit, .int v_made, .ref a_inputs, .ref a_outputs, .ref a_source, .ref a_index, .ref a_secret, .ref a_lock, .ref a_amount, .ref a_id, .int v_blocks, .ref a_parents, .ref a_parent, .ref a_holds, .ref a_held, .ref a_blockLock, .ref a_hash, .long v_dag, .ref a_past, .ref a_blues, .ref a_score, .ref a_selected, .int v_orphans, .ref a_orphan, .int v_pooled, .ref a_pool, .int o.1, .ref a_order, .ref a_merged, .ref a_accepted, .ref a_free, .ref a_coin, .ref a_worth])), (a_selected, .inl (cI, 61, .inl f_selected)), (a_past, .inl (cL, 61, .inr (.inl f_past))), (a_score, .inl (cI, 61, .inl f_score)), (a_hash, .inl (cI, 62, .inl f_hash)), (a_merged, .inl (cI, 64, .inl o.2.1)), (a_order, .inl (cI, 64, .inl o.2.2))]) (fun (o : Int32 × (Nat → Int32) × (Nat → Int32)) => none) o) 0 0 (mo_A [(a_this, .inr (7, [.int v_limit, .int v_made, .ref a_inputs, .ref a_outputs, .ref a_source, .ref a_index, .ref a_secret, .ref a_lock, .ref a_amount, .ref a_id, .int v_blocks, .ref a_parents, .ref a_parent, .ref a_holds, .ref a_held, .ref a_blockLock, .ref a_hash, .long v_dag, .ref a_past, .ref a_blues, .ref a_score, .ref a_selected, .int v_orphans, .ref a_orphan, .int v_pooled, .ref a_pool, .int v_places, .ref a_order, .ref a_merged, .ref a_accepted, .ref a_free, .ref a_coin, .ref a_worth])), (a_selected, .inl (cI, 61, .inl f_selected)), (a_past, .inl (cL, 61, .inr (.inl f_past))), (a_score, .inl (cI, 61, .inl f_score)), (a_hash, .inl (cI, 62, .inl f_hash)), (a_merged, .inl (cI, 64, .inl f_merged)), (a_order, .inl (cI, 64, .inl f_order))]) := by
  refine mo_start (by decide) (Nat.le_of_ble_eq_true rfl) ?_
  intro p e s m args below meth c hx hb hr hlocks hml hown hw hv ls hl Q hQ
  obtain ⟨hP, hK, hN, hD0⟩ := hv
  have hl : lv_has ls 5 [(0, .ref a_this)] := hl
  obtain ⟨A, hA2⟩ : ∃ A, A = mo_A [(a_this, .inr (7, [.int v_limit, .int v_made, .ref a_inputs, .ref a_outputs, .ref a_source, .ref a_index, .ref a_secret, .ref a_lock, .ref a_amount, .ref a_id, .int v_blocks, .ref a_parents, .ref a_parent, .ref a_holds, .ref a_held, .ref a_blockLock, .ref a_hash, .long v_dag, .ref a_past, .ref a_blues, .ref a_score, .ref a_selected, .int v_orphans, .ref a_orphan, .int v_pooled, .ref a_pool, .int v_places, .ref a_order, .ref a_merged, .ref a_accepted, .ref a_free, .ref a_coin, .ref a_worth])), (a_selected, .inl (cI, 61, .inl f_selected)), (a_past, .inl (cL, 61, .inr (.inl f_past))), (a_score, .inl (cI, 61, .inl f_score)), (a_hash, .inl (cI, 62, .inl f_hash)), (a_merged, .inl (cI, 64, .inl f_merged)), (a_order, .inl (cI, 64, .inl f_order))] := ⟨_, rfl⟩
  have hD : va_D A [(a_this, .inr (7, [.int v_limit, .int v_made, .ref a_inputs, .ref a_outputs, .ref a_source, .ref a_index, .ref a_secret, .ref a_lock, .ref a_amount, .ref a_id, .int v_blocks, .ref a_parents, .ref a_parent, .ref a_holds, .ref a_held, .ref a_blockLock, .ref a_hash, .long v_dag, .ref a_past, .ref a_blues, .ref a_score, .ref a_selected, .int v_orphans, .ref a_orphan, .int v_pooled, .ref a_pool, .int v_places, .ref a_order, .ref a_merged, .ref a_accepted, .ref a_free, .ref a_coin, .ref a_worth])), (a_selected, .inl (cI, 61, .inl f_selected)), (a_past, .inl (cL, 61, .inr (.inl f_past))), (a_score, .inl (cI, 61, .inl f_score)), (a_hash, .inl (cI, 62, .inl f_hash)), (a_merged, .inl (cI, 64, .inl f_merged)), (a_order, .inl (cI, 64, .inl f_order))] := hA2 ▸ mo_self hD0
  have hS : va_S A s.heap s.heap [] := va_S.rf
  unfold m_mm_line at h
  refine lv_aload_n (pc := 0) hx hb d_mm_line_0 rfl (lv_at hl 0 rfl) ?_
  refine gf_mm_56 (pc := 1) hx hb hw hN hown hK hP 0 rfl rfl d_mm_line_1 ?_
  obtain ⟨r4, hr4, h⟩ := mo_bd_e h
  refine mo_rS (pc := 4) (As := [.long v_dag]) (rest := []) (st1 := [.int r4]) ⟨hx, hb, hml, hown, hw⟩ (c_mm_many l D cI cL cZ v_dag r4 hr4) (kS_mm_143 hw ⟨by decide, by decide⟩) mo_P0 hK hN rfl hl.1 rfl rfl d_mm_line_4 rfl ?_
  refine lv_istore_n (pc := 7) (lv' := [(1, .int r4), (0, .ref a_this)]) hx hb d_mm_line_7 rfl hl (by decide) rfl (fun ls hl => ?_)
  refine lv_aload_n (pc := 8) hx hb d_mm_line_8 rfl (lv_at hl 1 rfl) ?_
  refine lv_iload_n (pc := 9) hx hb d_mm_line_9 rfl (lv_at hl 0 rfl) ?_
  refine pf_mm_158 (pc := 10) hx hb hw hN hown hK hP hD hS 0 rfl (Nat.le_of_ble_eq_true rfl) d_mm_line_10 (fun H locs hP hD hS => ?_)
  have hP : va_P D cl [(a_this, .inr (7, [.int v_limit, .int v_made, .ref a_inputs, .ref a_outputs, .ref a_source, .ref a_index, .ref a_secret, .ref a_lock, .ref a_amount, .ref a_id, .int v_blocks, .ref a_parents, .ref a_parent, .ref a_holds, .ref a_held, .ref a_blockLock, .ref a_hash, .long v_dag, .ref a_past, .ref a_blues, .ref a_score, .ref a_selected, .int v_orphans, .ref a_orphan, .int v_pooled, .ref a_pool, .int r4, .ref a_order, .ref a_merged, .ref a_accepted, .ref a_free, .ref a_coin, .ref a_worth])), (a_selected, .inl (cI, 61, .inl f_selected)), (a_past, .inl (cL, 61, .inr (.inl f_past))), (a_score, .inl (cI, 61, .inl f_score)), (a_hash, .inl (cI, 62, .inl f_hash)), (a_merged, .inl (cI, 64, .inl f_merged)), (a_order, .inl (cI, 64, .inl f_order))] H := hP
  have hD : va_D A [(a_this, .inr (7, [.int v_limit, .int v_made, .ref a_inputs, .ref a_outputs, .ref a_source, .ref a_index, .ref a_secret, .ref a_lock, .ref a_amount, .ref a_id, .int v_blocks, .ref a_parents, .ref a_parent, .ref a_holds, .ref a_held, .ref a_blockLock, .ref a_hash, .long v_dag, .ref a_past, .ref a_blues, .ref a_score, .ref a_selected, .int v_orphans, .ref a_orphan, .int v_pooled, .ref a_pool, .int r4, .ref a_order, .ref a_merged, .ref a_accepted, .ref a_free, .ref a_coin, .ref a_worth])), (a_selected, .inl (cI, 61, .inl f_selected)), (a_past, .inl (cL, 61, .inr (.inl f_past))), (a_score, .inl (cI, 61, .inl f_score)), (a_hash, .inl (cI, 62, .inl f_hash)), (a_merged, .inl (cI, 64, .inl f_merged)), (a_order, .inl (cI, 64, .inl f_order))] := hD
  refine lv_bipush (pc := 13) (v := 60) hx hb d_mm_line_13 (by decide) ?_
  refine lv_istore_n (pc := 15) (lv' := [(2, .int 60), (1, .int r4), (0, .ref a_this)]) hx hb d_mm_line_15 rfl hl (by decide) rfl (fun ls hl => ?_)
  obtain ⟨w16, K16, eK16, hy16, hr16⟩ := mo_bd_k h
  have E16 : ∀ (y16_f_merged : Nat → Int32) (y16_f_order : Nat → Int32) (ls : Array Slot) (H : Heap) (locs : List Loc) (hP : va_P D cl [(a_this, .inr (7, [.int v_limit, .int v_made, .ref a_inputs, .ref a_outputs, .ref a_source, .ref a_index, .ref a_secret, .ref a_lock, .ref a_amount, .ref a_id, .int v_blocks, .ref a_parents, .ref a_parent, .ref a_holds, .ref a_held, .ref a_blockLock, .ref a_hash, .long v_dag, .ref a_past, .ref a_blues, .ref a_score, .ref a_selected, .int v_orphans, .ref a_orphan, .int v_pooled, .ref a_pool, .int r4, .ref a_order, .ref a_merged, .ref a_accepted, .ref a_free, .ref a_coin, .ref a_worth])), (a_selected, .inl (cI, 61, .inl f_selected)), (a_past, .inl (cL, 61, .inr (.inl f_past))), (a_score, .inl (cI, 61, .inl f_score)), (a_hash, .inl (cI, 62, .inl f_hash)), (a_merged, .inl (cI, 64, .inl y16_f_merged)), (a_order, .inl (cI, 64, .inl y16_f_order))] H) (hD : va_D A [(a_this, .inr (7, [.int v_limit, .int v_made, .ref a_inputs, .ref a_outputs, .ref a_source, .ref a_index, .ref a_secret, .ref a_lock, .ref a_amount, .ref a_id, .int v_blocks, .ref a_parents, .ref a_parent, .ref a_holds, .ref a_held, .ref a_blockLock, .ref a_hash, .long v_dag, .ref a_past, .ref a_blues, .ref a_score, .ref a_selected, .int v_orphans, .ref a_orphan, .int v_pooled, .ref a_pool, .int r4, .ref a_order, .ref a_merged, .ref a_accepted, .ref a_free, .ref a_coin, .ref a_worth])), (a_selected, .inl (cI, 61, .inl f_selected)), (a_past, .inl (cL, 61, .inr (.inl f_past))), (a_score, .inl (cI, 61, .inl f_score)), (a_hash, .inl (cI, 62, .inl f_hash)), (a_merged, .inl (cI, 64, .inl y16_f_merged)), (a_order, .inl (cI, 64, .inl y16_f_order))]) (hS : va_S A s.heap H locs) (hl : lv_has ls 5 []) (h : K16 (y16_f_merged, y16_f_order) = some o), W p l e rm_mm_line s m args below meth c H locs 0 0 Q (F0 m 83 ls []) := by
    intro y16_f_merged y16_f_order ls H locs hP hD hS hl h
    have h := mo_a1 eK16 h
    try dsimp only at h
    exact mo_retVm hx hb hr hlocks hQ hA2 h hP hS d_mm_line_83 rfl
  exact mo_lp_i (step := (m_mm_line_L16 f_selected f_past f_score f_hash)) (o := w16) (fun (x : Int32 × Int32 × (Nat → Int32) × (Nat → Int32)) => match x with | (z16_1, z16_2, z16_f_merged, z16_f_order) => ∀ (ls : Array Slot) (H : Heap) (locs : List Loc) (hP : va_P D cl [(a_this, .inr (7, [.int v_limit, .int v_made, .ref a_inputs, .ref a_outputs, .ref a_source, .ref a_index, .ref a_secret, .ref a_lock, .ref a_amount, .ref a_id, .int v_blocks, .ref a_parents, .ref a_parent, .ref a_holds, .ref a_held, .ref a_blockLock, .ref a_hash, .long v_dag, .ref a_past, .ref a_blues, .ref a_score, .ref a_selected, .int v_orphans, .ref a_orphan, .int v_pooled, .ref a_pool, .int r4, .ref a_order, .ref a_merged, .ref a_accepted, .ref a_free, .ref a_coin, .ref a_worth])), (a_selected, .inl (cI, 61, .inl f_selected)), (a_past, .inl (cL, 61, .inr (.inl f_past))), (a_score, .inl (cI, 61, .inl f_score)), (a_hash, .inl (cI, 62, .inl f_hash)), (a_merged, .inl (cI, 64, .inl z16_f_merged)), (a_order, .inl (cI, 64, .inl z16_f_order))] H) (hD : va_D A [(a_this, .inr (7, [.int v_limit, .int v_made, .ref a_inputs, .ref a_outputs, .ref a_source, .ref a_index, .ref a_secret, .ref a_lock, .ref a_amount, .ref a_id, .int v_blocks, .ref a_parents, .ref a_parent, .ref a_holds, .ref a_held, .ref a_blockLock, .ref a_hash, .long v_dag, .ref a_past, .ref a_blues, .ref a_score, .ref a_selected, .int v_orphans, .ref a_orphan, .int v_pooled, .ref a_pool, .int r4, .ref a_order, .ref a_merged, .ref a_accepted, .ref a_free, .ref a_coin, .ref a_worth])), (a_selected, .inl (cI, 61, .inl f_selected)), (a_past, .inl (cL, 61, .inr (.inl f_past))), (a_score, .inl (cI, 61, .inl f_score)), (a_hash, .inl (cI, 62, .inl f_hash)), (a_merged, .inl (cI, 64, .inl z16_f_merged)), (a_order, .inl (cI, 64, .inl z16_f_order))]) (hS : va_S A s.heap H locs) (hl : lv_has ls 5 [(0, .ref a_this), (1, .int z16_1), (2, .int z16_2)]), W p l e rm_mm_line s m args below meth c H locs 0 0 Q (F0 m 16 ls [])) (by
      rintro bk16 hb16 ⟨z16_1, z16_2, z16_f_merged, z16_f_order⟩ h ls H locs hP hD hS hl
      unfold m_mm_line_L16 at h
      try dsimp only at h
      refine lv_aload_n (pc := 16) hx hb d_mm_line_16 rfl (lv_at hl 0 rfl) ?_
      refine gf_mm_70 (pc := 17) hx hb hw hN hown hK hP 0 rfl rfl d_mm_line_17 ?_
      refine lv_iload_n (pc := 20) hx hb d_mm_line_20 rfl (lv_at hl 2 rfl) ?_
      obtain ⟨v21, hi21, e21, h⟩ := mo_rI_e h
      refine mo_iald (pc := 21) hx hb hK hP 1 0 rfl rfl hi21 e21 d_mm_line_21 ?_
      refine lv_if_lt (pc := 22) (tgt := 83) hx hb d_mm_line_22 rfl (fun hc => ?_) (fun hc => ?_)
      · have h := mo_t hc h
        exact E16 z16_f_merged z16_f_order _ _ _ hP hD hS (lv_sub hl [] rfl) (by rw [Option.some.inj h]; exact hr16)
      · have h := mo_f hc h
        refine lv_aload_n (pc := 25) hx hb d_mm_line_25 rfl (lv_at hl 0 rfl) ?_
        refine lv_iload_n (pc := 26) hx hb d_mm_line_26 rfl (lv_at hl 2 rfl) ?_
        obtain ⟨⟨r27, r27_0⟩, hr27, h⟩ := mo_bd_e h
        try dsimp only at h
        refine mo_mV (pc := 27) (As := [.int z16_2]) (rest := []) (st1 := [.int r27]) ⟨hx, hb, hml, hown, hw⟩ (c_mm_merge l D cI cL cZ a_this a_past a_selected a_score a_hash a_merged a_inputs a_outputs a_source a_index a_secret a_lock a_amount a_id a_parents a_parent a_holds a_held a_blockLock a_blues a_orphan a_pool a_order a_accepted a_free a_coin a_worth v_limit v_made v_blocks v_dag v_orphans v_pooled r4 f_past f_selected f_score f_hash z16_f_merged z16_2 (r27, r27_0) hr27) (kV_mm_135 hw ⟨by decide, by decide⟩) hP hD hS hK hN [0, 2, 1, 3, 4, 5] [some 0, some 2, some 1, some 3, some 4, some 5, none] rfl rfl rfl rfl rfl rfl rfl hl.1 rfl rfl d_mm_line_27 rfl (fun H locs hP hD hS => ?_)
        have hP : va_P D cl [(a_this, .inr (7, [.int v_limit, .int v_made, .ref a_inputs, .ref a_outputs, .ref a_source, .ref a_index, .ref a_secret, .ref a_lock, .ref a_amount, .ref a_id, .int v_blocks, .ref a_parents, .ref a_parent, .ref a_holds, .ref a_held, .ref a_blockLock, .ref a_hash, .long v_dag, .ref a_past, .ref a_blues, .ref a_score, .ref a_selected, .int v_orphans, .ref a_orphan, .int v_pooled, .ref a_pool, .int r4, .ref a_order, .ref a_merged, .ref a_accepted, .ref a_free, .ref a_coin, .ref a_worth])), (a_selected, .inl (cI, 61, .inl f_selected)), (a_past, .inl (cL, 61, .inr (.inl f_past))), (a_score, .inl (cI, 61, .inl f_score)), (a_hash, .inl (cI, 62, .inl f_hash)), (a_merged, .inl (cI, 64, .inl r27_0)), (a_order, .inl (cI, 64, .inl z16_f_order))] H := hP
        have hD : va_D A [(a_this, .inr (7, [.int v_limit, .int v_made, .ref a_inputs, .ref a_outputs, .ref a_source, .ref a_index, .ref a_secret, .ref a_lock, .ref a_amount, .ref a_id, .int v_blocks, .ref a_parents, .ref a_parent, .ref a_holds, .ref a_held, .ref a_blockLock, .ref a_hash, .long v_dag, .ref a_past, .ref a_blues, .ref a_score, .ref a_selected, .int v_orphans, .ref a_orphan, .int v_pooled, .ref a_pool, .int r4, .ref a_order, .ref a_merged, .ref a_accepted, .ref a_free, .ref a_coin, .ref a_worth])), (a_selected, .inl (cI, 61, .inl f_selected)), (a_past, .inl (cL, 61, .inr (.inl f_past))), (a_score, .inl (cI, 61, .inl f_score)), (a_hash, .inl (cI, 62, .inl f_hash)), (a_merged, .inl (cI, 64, .inl r27_0)), (a_order, .inl (cI, 64, .inl z16_f_order))] := hD
        refine lv_istore_n (pc := 30) (lv' := [(3, .int r27), (0, .ref a_this), (1, .int z16_1), (2, .int z16_2)]) hx hb d_mm_line_30 rfl hl (by decide) rfl (fun ls hl => ?_)
        refine lv_iload_n (pc := 31) hx hb d_mm_line_31 rfl (lv_at hl 0 rfl) ?_
        refine lv_iconst (pc := 32) (v := 1) hx hb d_mm_line_32 (by decide) ?_
        refine lv_isub (pc := 33) hx hb d_mm_line_33 ?_
        refine lv_istore (pc := 34) (lv' := [(4, .int (r27 - 1)), (3, .int r27), (0, .ref a_this), (1, .int z16_1), (2, .int z16_2)]) hx hb d_mm_line_34 hl (by decide) rfl (fun ls hl => ?_)
        obtain ⟨w36, K36, eK36, hy36, hr36⟩ := mo_bd_k h
        have E36 : ∀ (y36_1 : Int32) (y36_f_order : Nat → Int32) (ls : Array Slot) (H : Heap) (locs : List Loc) (hP : va_P D cl [(a_this, .inr (7, [.int v_limit, .int v_made, .ref a_inputs, .ref a_outputs, .ref a_source, .ref a_index, .ref a_secret, .ref a_lock, .ref a_amount, .ref a_id, .int v_blocks, .ref a_parents, .ref a_parent, .ref a_holds, .ref a_held, .ref a_blockLock, .ref a_hash, .long v_dag, .ref a_past, .ref a_blues, .ref a_score, .ref a_selected, .int v_orphans, .ref a_orphan, .int v_pooled, .ref a_pool, .int r4, .ref a_order, .ref a_merged, .ref a_accepted, .ref a_free, .ref a_coin, .ref a_worth])), (a_selected, .inl (cI, 61, .inl f_selected)), (a_past, .inl (cL, 61, .inr (.inl f_past))), (a_score, .inl (cI, 61, .inl f_score)), (a_hash, .inl (cI, 62, .inl f_hash)), (a_merged, .inl (cI, 64, .inl r27_0)), (a_order, .inl (cI, 64, .inl y36_f_order))] H) (hD : va_D A [(a_this, .inr (7, [.int v_limit, .int v_made, .ref a_inputs, .ref a_outputs, .ref a_source, .ref a_index, .ref a_secret, .ref a_lock, .ref a_amount, .ref a_id, .int v_blocks, .ref a_parents, .ref a_parent, .ref a_holds, .ref a_held, .ref a_blockLock, .ref a_hash, .long v_dag, .ref a_past, .ref a_blues, .ref a_score, .ref a_selected, .int v_orphans, .ref a_orphan, .int v_pooled, .ref a_pool, .int r4, .ref a_order, .ref a_merged, .ref a_accepted, .ref a_free, .ref a_coin, .ref a_worth])), (a_selected, .inl (cI, 61, .inl f_selected)), (a_past, .inl (cL, 61, .inr (.inl f_past))), (a_score, .inl (cI, 61, .inl f_score)), (a_hash, .inl (cI, 62, .inl f_hash)), (a_merged, .inl (cI, 64, .inl r27_0)), (a_order, .inl (cI, 64, .inl y36_f_order))]) (hS : va_S A s.heap H locs) (hl : lv_has ls 5 [(0, .ref a_this), (1, .int y36_1), (2, .int z16_2)]) (h : K36 (y36_1, y36_f_order) = some w16), W p l e rm_mm_line s m args below meth c H locs 0 0 Q (F0 m 63 ls []) := by
          intro y36_1 y36_f_order ls H locs hP hD hS hl h
          have h := mo_a1 eK36 h
          try dsimp only at h
          refine lv_iinc (pc := 63) (k := 1) (v := y36_1 + (-1)) (lv' := [(1, .int (y36_1 + (-1))), (0, .ref a_this), (2, .int z16_2)]) hx hb d_mm_line_63 hl rfl (mo_incm1 _) (by decide) rfl (fun ls hl => ?_)
          refine lv_aload_n (pc := 66) hx hb d_mm_line_66 rfl (lv_at hl 1 rfl) ?_
          refine gf_mm_70 (pc := 67) hx hb hw hN hown hK hP 0 rfl rfl d_mm_line_67 ?_
          refine lv_iload_n (pc := 70) hx hb d_mm_line_70 rfl (lv_at hl 2 rfl) ?_
          obtain ⟨v71, hi71, e71, h⟩ := mo_rI_e h
          refine mo_iald (pc := 71) hx hb hK hP 1 0 rfl rfl hi71 e71 d_mm_line_71 ?_
          refine lv_istore_n (pc := 72) (lv' := [(2, .int v71), (1, .int (y36_1 + (-1))), (0, .ref a_this)]) hx hb d_mm_line_72 rfl hl (by decide) rfl (fun ls hl => ?_)
          refine lv_aload_n (pc := 73) hx hb d_mm_line_73 rfl (lv_at hl 2 rfl) ?_
          refine gf_mm_79 (pc := 74) hx hb hw hN hown hK hP 0 rfl rfl d_mm_line_74 ?_
          refine lv_iload_n (pc := 77) hx hb d_mm_line_77 rfl (lv_at hl 1 rfl) ?_
          refine lv_iload_n (pc := 78) hx hb d_mm_line_78 rfl (lv_at hl 0 rfl) ?_
          obtain ⟨g79, hi79, e79, h⟩ := mo_wI_e h
          refine mo_iast (pc := 79) hx hb hK hP hD hS 6 0 rfl rfl hi79 e79 d_mm_line_79 (fun H locs hP hD hS => ?_)
          have hP : va_P D cl [(a_this, .inr (7, [.int v_limit, .int v_made, .ref a_inputs, .ref a_outputs, .ref a_source, .ref a_index, .ref a_secret, .ref a_lock, .ref a_amount, .ref a_id, .int v_blocks, .ref a_parents, .ref a_parent, .ref a_holds, .ref a_held, .ref a_blockLock, .ref a_hash, .long v_dag, .ref a_past, .ref a_blues, .ref a_score, .ref a_selected, .int v_orphans, .ref a_orphan, .int v_pooled, .ref a_pool, .int r4, .ref a_order, .ref a_merged, .ref a_accepted, .ref a_free, .ref a_coin, .ref a_worth])), (a_selected, .inl (cI, 61, .inl f_selected)), (a_past, .inl (cL, 61, .inr (.inl f_past))), (a_score, .inl (cI, 61, .inl f_score)), (a_hash, .inl (cI, 62, .inl f_hash)), (a_merged, .inl (cI, 64, .inl r27_0)), (a_order, .inl (cI, 64, .inl g79))] H := hP
          have hD : va_D A [(a_this, .inr (7, [.int v_limit, .int v_made, .ref a_inputs, .ref a_outputs, .ref a_source, .ref a_index, .ref a_secret, .ref a_lock, .ref a_amount, .ref a_id, .int v_blocks, .ref a_parents, .ref a_parent, .ref a_holds, .ref a_held, .ref a_blockLock, .ref a_hash, .long v_dag, .ref a_past, .ref a_blues, .ref a_score, .ref a_selected, .int v_orphans, .ref a_orphan, .int v_pooled, .ref a_pool, .int r4, .ref a_order, .ref a_merged, .ref a_accepted, .ref a_free, .ref a_coin, .ref a_worth])), (a_selected, .inl (cI, 61, .inl f_selected)), (a_past, .inl (cL, 61, .inr (.inl f_past))), (a_score, .inl (cI, 61, .inl f_score)), (a_hash, .inl (cI, 62, .inl f_hash)), (a_merged, .inl (cI, 64, .inl r27_0)), (a_order, .inl (cI, 64, .inl g79))] := hD
          refine lv_goto (pc := 80) (tgt := 16) hx hb d_mm_line_80 rfl ?_
          exact hb16 (y36_1 + (-1), v71, r27_0, g79) h _ _ _ hP hD hS (lv_sub hl [2, 1, 0] rfl)
        exact mo_lp_i (step := (m_mm_line_L36 r27_0)) (o := w36) (fun (x : Int32 × Int32 × (Nat → Int32)) => match x with | (z36_1, z36_4, z36_f_order) => ∀ (ls : Array Slot) (H : Heap) (locs : List Loc) (hP : va_P D cl [(a_this, .inr (7, [.int v_limit, .int v_made, .ref a_inputs, .ref a_outputs, .ref a_source, .ref a_index, .ref a_secret, .ref a_lock, .ref a_amount, .ref a_id, .int v_blocks, .ref a_parents, .ref a_parent, .ref a_holds, .ref a_held, .ref a_blockLock, .ref a_hash, .long v_dag, .ref a_past, .ref a_blues, .ref a_score, .ref a_selected, .int v_orphans, .ref a_orphan, .int v_pooled, .ref a_pool, .int r4, .ref a_order, .ref a_merged, .ref a_accepted, .ref a_free, .ref a_coin, .ref a_worth])), (a_selected, .inl (cI, 61, .inl f_selected)), (a_past, .inl (cL, 61, .inr (.inl f_past))), (a_score, .inl (cI, 61, .inl f_score)), (a_hash, .inl (cI, 62, .inl f_hash)), (a_merged, .inl (cI, 64, .inl r27_0)), (a_order, .inl (cI, 64, .inl z36_f_order))] H) (hD : va_D A [(a_this, .inr (7, [.int v_limit, .int v_made, .ref a_inputs, .ref a_outputs, .ref a_source, .ref a_index, .ref a_secret, .ref a_lock, .ref a_amount, .ref a_id, .int v_blocks, .ref a_parents, .ref a_parent, .ref a_holds, .ref a_held, .ref a_blockLock, .ref a_hash, .long v_dag, .ref a_past, .ref a_blues, .ref a_score, .ref a_selected, .int v_orphans, .ref a_orphan, .int v_pooled, .ref a_pool, .int r4, .ref a_order, .ref a_merged, .ref a_accepted, .ref a_free, .ref a_coin, .ref a_worth])), (a_selected, .inl (cI, 61, .inl f_selected)), (a_past, .inl (cL, 61, .inr (.inl f_past))), (a_score, .inl (cI, 61, .inl f_score)), (a_hash, .inl (cI, 62, .inl f_hash)), (a_merged, .inl (cI, 64, .inl r27_0)), (a_order, .inl (cI, 64, .inl z36_f_order))]) (hS : va_S A s.heap H locs) (hl : lv_has ls 5 [(0, .ref a_this), (1, .int z36_1), (2, .int z16_2), (4, .int z36_4)]), W p l e rm_mm_line s m args below meth c H locs 0 0 Q (F0 m 36 ls [])) (by
            rintro bk36 hb36 ⟨z36_1, z36_4, z36_f_order⟩ h ls H locs hP hD hS hl
            unfold m_mm_line_L36 at h
            try dsimp only at h
            refine lv_iload (pc := 36) hx hb d_mm_line_36 (lv_at hl 3 rfl) ?_
            refine lv_if_lt (pc := 38) (tgt := 63) hx hb d_mm_line_38 rfl (fun hc => ?_) (fun hc => ?_)
            · have h := mo_t hc h
              exact E36 z36_1 z36_f_order _ _ _ hP hD hS (lv_sub hl [0, 1, 2] rfl) (by rw [Option.some.inj h]; exact hr36)
            · have h := mo_f hc h
              refine lv_iinc (pc := 41) (k := 1) (v := z36_1 + (-1)) (lv' := [(1, .int (z36_1 + (-1))), (0, .ref a_this), (2, .int z16_2), (4, .int z36_4)]) hx hb d_mm_line_41 hl rfl (mo_incm1 _) (by decide) rfl (fun ls hl => ?_)
              refine lv_aload_n (pc := 44) hx hb d_mm_line_44 rfl (lv_at hl 1 rfl) ?_
              refine gf_mm_79 (pc := 45) hx hb hw hN hown hK hP 0 rfl rfl d_mm_line_45 ?_
              refine lv_iload_n (pc := 48) hx hb d_mm_line_48 rfl (lv_at hl 0 rfl) ?_
              refine lv_aload_n (pc := 49) hx hb d_mm_line_49 rfl (lv_at hl 1 rfl) ?_
              refine gf_mm_82 (pc := 50) hx hb hw hN hown hK hP 0 rfl rfl d_mm_line_50 ?_
              refine lv_iload (pc := 53) hx hb d_mm_line_53 (lv_at hl 3 rfl) ?_
              obtain ⟨v55, hi55, e55, h⟩ := mo_rI_e h
              refine mo_iald (pc := 55) hx hb hK hP 5 0 rfl rfl hi55 e55 d_mm_line_55 ?_
              obtain ⟨g56, hi56, e56, h⟩ := mo_wI_e h
              refine mo_iast (pc := 56) hx hb hK hP hD hS 6 0 rfl rfl hi56 e56 d_mm_line_56 (fun H locs hP hD hS => ?_)
              have hP : va_P D cl [(a_this, .inr (7, [.int v_limit, .int v_made, .ref a_inputs, .ref a_outputs, .ref a_source, .ref a_index, .ref a_secret, .ref a_lock, .ref a_amount, .ref a_id, .int v_blocks, .ref a_parents, .ref a_parent, .ref a_holds, .ref a_held, .ref a_blockLock, .ref a_hash, .long v_dag, .ref a_past, .ref a_blues, .ref a_score, .ref a_selected, .int v_orphans, .ref a_orphan, .int v_pooled, .ref a_pool, .int r4, .ref a_order, .ref a_merged, .ref a_accepted, .ref a_free, .ref a_coin, .ref a_worth])), (a_selected, .inl (cI, 61, .inl f_selected)), (a_past, .inl (cL, 61, .inr (.inl f_past))), (a_score, .inl (cI, 61, .inl f_score)), (a_hash, .inl (cI, 62, .inl f_hash)), (a_merged, .inl (cI, 64, .inl r27_0)), (a_order, .inl (cI, 64, .inl g56))] H := hP
              have hD : va_D A [(a_this, .inr (7, [.int v_limit, .int v_made, .ref a_inputs, .ref a_outputs, .ref a_source, .ref a_index, .ref a_secret, .ref a_lock, .ref a_amount, .ref a_id, .int v_blocks, .ref a_parents, .ref a_parent, .ref a_holds, .ref a_held, .ref a_blockLock, .ref a_hash, .long v_dag, .ref a_past, .ref a_blues, .ref a_score, .ref a_selected, .int v_orphans, .ref a_orphan, .int v_pooled, .ref a_pool, .int r4, .ref a_order, .ref a_merged, .ref a_accepted, .ref a_free, .ref a_coin, .ref a_worth])), (a_selected, .inl (cI, 61, .inl f_selected)), (a_past, .inl (cL, 61, .inr (.inl f_past))), (a_score, .inl (cI, 61, .inl f_score)), (a_hash, .inl (cI, 62, .inl f_hash)), (a_merged, .inl (cI, 64, .inl r27_0)), (a_order, .inl (cI, 64, .inl g56))] := hD
              refine lv_iinc (pc := 57) (k := 3) (v := z36_4 + (-1)) (lv' := [(4, .int (z36_4 + (-1))), (1, .int (z36_1 + (-1))), (0, .ref a_this), (2, .int z16_2)]) hx hb d_mm_line_57 hl rfl (mo_incm1 _) (by decide) rfl (fun ls hl => ?_)
              refine lv_goto (pc := 60) (tgt := 36) hx hb d_mm_line_60 rfl ?_
              exact hb36 (z36_1 + (-1), z36_4 + (-1), g56) h _ _ _ hP hD hS (lv_sub hl [2, 1, 3, 0] rfl)
          ) _ _ hy36 _ _ _ hP hD hS (lv_sub hl [2, 3, 4, 0] rfl)
    ) _ _ hy16 _ _ _ hP hD hS (lv_sub hl [2, 1, 0] rfl)
set_option maxRecDepth 100000 in
set_option maxHeartbeats 4000000 in
theorem c_mm_there (l : Launch) (D : va_G) (cI cL cZ : ClassId) (a_this : Nat) (a_free : Nat) (a_coin : Nat) (a_inputs : Nat) (a_outputs : Nat) (a_source : Nat) (a_index : Nat) (a_secret : Nat) (a_lock : Nat) (a_amount : Nat) (a_id : Nat) (a_parents : Nat) (a_parent : Nat) (a_holds : Nat) (a_held : Nat) (a_blockLock : Nat) (a_hash : Nat) (a_past : Nat) (a_blues : Nat) (a_score : Nat) (a_selected : Nat) (a_orphan : Nat) (a_pool : Nat) (a_order : Nat) (a_merged : Nat) (a_accepted : Nat) (a_worth : Nat) (v_limit : Int32) (v_made : Int32) (v_blocks : Int32) (v_dag : Int64) (v_orphans : Int32) (v_pooled : Int32) (v_places : Int32) (f_free : Nat → Int32) (f_coin : Nat → Int32) (x1 : Int32) (x2 : Int32) (o : Int32) (h : m_mm_there f_free f_coin x1 x2 = some o) : Met l y_mm_there (Cond.code y_mm_there b_mm_there 3 (some .boolean) :: WG) rm_mm_there (va_Pc [.ref a_this, .int x1, .int x2] (mo_Pr D [(cI, .int), (cL, .long), (cZ, .boolean)] [(a_this, .inr (7, [.int v_limit, .int v_made, .ref a_inputs, .ref a_outputs, .ref a_source, .ref a_index, .ref a_secret, .ref a_lock, .ref a_amount, .ref a_id, .int v_blocks, .ref a_parents, .ref a_parent, .ref a_holds, .ref a_held, .ref a_blockLock, .ref a_hash, .long v_dag, .ref a_past, .ref a_blues, .ref a_score, .ref a_selected, .int v_orphans, .ref a_orphan, .int v_pooled, .ref a_pool, .int v_places, .ref a_order, .ref a_merged, .ref a_accepted, .ref a_free, .ref a_coin, .ref a_worth])), (a_free, .inl (cZ, 80, .inl f_free)), (a_coin, .inl (cZ, 60, .inl f_coin))])) (mo_Qr (some (.int o))) 0 0 (fun _ => False) := by
  refine mo_start (by decide) (Nat.le_of_ble_eq_true rfl) ?_
  intro p e s m args below meth c hx hb hr hlocks hml hown hw hv ls hl Q hQ
  obtain ⟨hP, hK, hN⟩ := hv
  have hl : lv_has ls 3 [(0, .ref a_this), (1, .int x1), (2, .int x2)] := hl
  unfold m_mm_there at h
  refine lv_iload_n (pc := 0) hx hb d_mm_there_0 rfl (lv_at hl 1 rfl) ?_
  refine lv_bipush (pc := 1) (v := 100) hx hb d_mm_there_1 (by decide) ?_
  refine lv_icmp_ge (pc := 3) (tgt := 19) hx hb d_mm_there_3 rfl (fun hc => ?_) (fun hc => ?_)
  · have h := mo_t hc h
    refine lv_iload_n (pc := 19) hx hb d_mm_there_19 rfl (lv_at hl 2 rfl) ?_
    refine lv_if_ne (pc := 20) (tgt := 39) hx hb d_mm_there_20 rfl (fun hc => ?_) (fun hc => ?_)
    · have h := mo_f hc h
      refine lv_iconst (pc := 39) (v := 0) hx hb d_mm_there_39 (by decide) ?_
      exact mo_retZr (mo_nz (by decide)) hx hb hr hlocks hQ h d_mm_there_40
    · have h := mo_t hc h
      refine lv_aload_n (pc := 23) hx hb d_mm_there_23 rfl (lv_at hl 0 rfl) ?_
      refine gf_mm_92 (pc := 24) hx hb hw hN hown hK hP 0 rfl rfl d_mm_there_24 ?_
      refine lv_iload_n (pc := 27) hx hb d_mm_there_27 rfl (lv_at hl 1 rfl) ?_
      refine lv_bipush (pc := 28) (v := 100) hx hb d_mm_there_28 (by decide) ?_
      refine lv_isub (pc := 30) hx hb d_mm_there_30 ?_
      obtain ⟨v31, hi31, e31, h⟩ := mo_rI_e h
      refine mo_zald (pc := 31) hx hb hK hP 2 2 rfl rfl hi31 e31 d_mm_there_31 ?_
      refine lv_if_eq (pc := 32) (tgt := 39) hx hb d_mm_there_32 rfl (fun hc => ?_) (fun hc => ?_)
      · have h := mo_t hc h
        refine lv_iconst (pc := 39) (v := 0) hx hb d_mm_there_39 (by decide) ?_
        exact mo_retZr (mo_nz (by decide)) hx hb hr hlocks hQ h d_mm_there_40
      · have h := mo_f hc h
        refine lv_iconst (pc := 35) (v := 1) hx hb d_mm_there_35 (by decide) ?_
        refine lv_goto (pc := 36) (tgt := 40) hx hb d_mm_there_36 rfl ?_
        exact mo_retZr (mo_nz (by decide)) hx hb hr hlocks hQ h d_mm_there_40
  · have h := mo_f hc h
    refine lv_aload_n (pc := 6) hx hb d_mm_there_6 rfl (lv_at hl 0 rfl) ?_
    refine gf_mm_89 (pc := 7) hx hb hw hN hown hK hP 0 rfl rfl d_mm_there_7 ?_
    refine lv_iconst (pc := 10) (v := 2) hx hb d_mm_there_10 (by decide) ?_
    refine lv_iload_n (pc := 11) hx hb d_mm_there_11 rfl (lv_at hl 1 rfl) ?_
    refine lv_imul (pc := 12) hx hb d_mm_there_12 ?_
    refine lv_iload_n (pc := 13) hx hb d_mm_there_13 rfl (lv_at hl 2 rfl) ?_
    refine lv_iadd (pc := 14) hx hb d_mm_there_14 ?_
    obtain ⟨v15, hi15, e15, h⟩ := mo_rI_e h
    refine mo_zald (pc := 15) hx hb hK hP 1 2 rfl rfl hi15 e15 d_mm_there_15 ?_
    refine lv_goto (pc := 16) (tgt := 40) hx hb d_mm_there_16 rfl ?_
    obtain ⟨hz, h⟩ := mo_bz_e h
    exact mo_retZr (mo_nz hz) hx hb hr hlocks hQ h d_mm_there_40
set_option maxRecDepth 100000 in
set_option maxHeartbeats 4000000 in
theorem c_mm_lockOf (l : Launch) (D : va_G) (cI cL cZ : ClassId) (a_this : Nat) (a_lock : Nat) (a_blockLock : Nat) (a_inputs : Nat) (a_outputs : Nat) (a_source : Nat) (a_index : Nat) (a_secret : Nat) (a_amount : Nat) (a_id : Nat) (a_parents : Nat) (a_parent : Nat) (a_holds : Nat) (a_held : Nat) (a_hash : Nat) (a_past : Nat) (a_blues : Nat) (a_score : Nat) (a_selected : Nat) (a_orphan : Nat) (a_pool : Nat) (a_order : Nat) (a_merged : Nat) (a_accepted : Nat) (a_free : Nat) (a_coin : Nat) (a_worth : Nat) (v_limit : Int32) (v_made : Int32) (v_blocks : Int32) (v_dag : Int64) (v_orphans : Int32) (v_pooled : Int32) (v_places : Int32) (f_lock : Nat → Int32) (f_blockLock : Nat → Int32) (x1 : Int32) (x2 : Int32) (o : Int32) (h : m_mm_lockOf f_lock f_blockLock x1 x2 = some o) : Met l y_mm_lockOf (Cond.code y_mm_lockOf b_mm_lockOf 3 (some .int) :: WG) rm_mm_lockOf (va_Pc [.ref a_this, .int x1, .int x2] (mo_Pr D [(cI, .int), (cL, .long), (cZ, .boolean)] [(a_this, .inr (7, [.int v_limit, .int v_made, .ref a_inputs, .ref a_outputs, .ref a_source, .ref a_index, .ref a_secret, .ref a_lock, .ref a_amount, .ref a_id, .int v_blocks, .ref a_parents, .ref a_parent, .ref a_holds, .ref a_held, .ref a_blockLock, .ref a_hash, .long v_dag, .ref a_past, .ref a_blues, .ref a_score, .ref a_selected, .int v_orphans, .ref a_orphan, .int v_pooled, .ref a_pool, .int v_places, .ref a_order, .ref a_merged, .ref a_accepted, .ref a_free, .ref a_coin, .ref a_worth])), (a_lock, .inl (cI, 82, .inl f_lock)), (a_blockLock, .inl (cI, 62, .inl f_blockLock))])) (mo_Qr (some (.int o))) 0 0 (fun _ => False) := by
  refine mo_start (by decide) (Nat.le_of_ble_eq_true rfl) ?_
  intro p e s m args below meth c hx hb hr hlocks hml hown hw hv ls hl Q hQ
  obtain ⟨hP, hK, hN⟩ := hv
  have hl : lv_has ls 3 [(0, .ref a_this), (1, .int x1), (2, .int x2)] := hl
  unfold m_mm_lockOf at h
  refine lv_iload_n (pc := 0) hx hb d_mm_lockOf_0 rfl (lv_at hl 1 rfl) ?_
  refine lv_bipush (pc := 1) (v := 100) hx hb d_mm_lockOf_1 (by decide) ?_
  refine lv_icmp_ge (pc := 3) (tgt := 19) hx hb d_mm_lockOf_3 rfl (fun hc => ?_) (fun hc => ?_)
  · have h := mo_t hc h
    refine lv_aload_n (pc := 19) hx hb d_mm_lockOf_19 rfl (lv_at hl 0 rfl) ?_
    refine gf_mm_50 (pc := 20) hx hb hw hN hown hK hP 0 rfl rfl d_mm_lockOf_20 ?_
    refine lv_iload_n (pc := 23) hx hb d_mm_lockOf_23 rfl (lv_at hl 1 rfl) ?_
    refine lv_bipush (pc := 24) (v := 100) hx hb d_mm_lockOf_24 (by decide) ?_
    refine lv_isub (pc := 26) hx hb d_mm_lockOf_26 ?_
    obtain ⟨v27, hi27, e27, h⟩ := mo_rI_e h
    refine mo_iald (pc := 27) hx hb hK hP 2 0 rfl rfl hi27 e27 d_mm_lockOf_27 ?_
    exact mo_retIr hx hb hr hlocks hQ h d_mm_lockOf_28
  · have h := mo_f hc h
    refine lv_aload_n (pc := 6) hx hb d_mm_lockOf_6 rfl (lv_at hl 0 rfl) ?_
    refine gf_mm_25 (pc := 7) hx hb hw hN hown hK hP 0 rfl rfl d_mm_lockOf_7 ?_
    refine lv_iconst (pc := 10) (v := 2) hx hb d_mm_lockOf_10 (by decide) ?_
    refine lv_iload_n (pc := 11) hx hb d_mm_lockOf_11 rfl (lv_at hl 1 rfl) ?_
    refine lv_imul (pc := 12) hx hb d_mm_lockOf_12 ?_
    refine lv_iload_n (pc := 13) hx hb d_mm_lockOf_13 rfl (lv_at hl 2 rfl) ?_
    refine lv_iadd (pc := 14) hx hb d_mm_lockOf_14 ?_
    obtain ⟨v15, hi15, e15, h⟩ := mo_rI_e h
    refine mo_iald (pc := 15) hx hb hK hP 1 0 rfl rfl hi15 e15 d_mm_lockOf_15 ?_
    refine lv_goto (pc := 16) (tgt := 28) hx hb d_mm_lockOf_16 rfl ?_
    exact mo_retIr hx hb hr hlocks hQ h d_mm_lockOf_28
set_option maxRecDepth 100000 in
set_option maxHeartbeats 4000000 in
theorem c_mm_worthOf (l : Launch) (D : va_G) (cI cL cZ : ClassId) (a_this : Nat) (a_amount : Nat) (a_worth : Nat) (a_inputs : Nat) (a_outputs : Nat) (a_source : Nat) (a_index : Nat) (a_secret : Nat) (a_lock : Nat) (a_id : Nat) (a_parents : Nat) (a_parent : Nat) (a_holds : Nat) (a_held : Nat) (a_blockLock : Nat) (a_hash : Nat) (a_past : Nat) (a_blues : Nat) (a_score : Nat) (a_selected : Nat) (a_orphan : Nat) (a_pool : Nat) (a_order : Nat) (a_merged : Nat) (a_accepted : Nat) (a_free : Nat) (a_coin : Nat) (v_limit : Int32) (v_made : Int32) (v_blocks : Int32) (v_dag : Int64) (v_orphans : Int32) (v_pooled : Int32) (v_places : Int32) (f_amount : Nat → Int32) (f_worth : Nat → Int32) (x1 : Int32) (x2 : Int32) (o : Int32) (h : m_mm_worthOf f_amount f_worth x1 x2 = some o) : Met l y_mm_worthOf (Cond.code y_mm_worthOf b_mm_worthOf 3 (some .int) :: WG) rm_mm_worthOf (va_Pc [.ref a_this, .int x1, .int x2] (mo_Pr D [(cI, .int), (cL, .long), (cZ, .boolean)] [(a_this, .inr (7, [.int v_limit, .int v_made, .ref a_inputs, .ref a_outputs, .ref a_source, .ref a_index, .ref a_secret, .ref a_lock, .ref a_amount, .ref a_id, .int v_blocks, .ref a_parents, .ref a_parent, .ref a_holds, .ref a_held, .ref a_blockLock, .ref a_hash, .long v_dag, .ref a_past, .ref a_blues, .ref a_score, .ref a_selected, .int v_orphans, .ref a_orphan, .int v_pooled, .ref a_pool, .int v_places, .ref a_order, .ref a_merged, .ref a_accepted, .ref a_free, .ref a_coin, .ref a_worth])), (a_amount, .inl (cI, 82, .inl f_amount)), (a_worth, .inl (cI, 60, .inl f_worth))])) (mo_Qr (some (.int o))) 0 0 (fun _ => False) := by
  refine mo_start (by decide) (Nat.le_of_ble_eq_true rfl) ?_
  intro p e s m args below meth c hx hb hr hlocks hml hown hw hv ls hl Q hQ
  obtain ⟨hP, hK, hN⟩ := hv
  have hl : lv_has ls 3 [(0, .ref a_this), (1, .int x1), (2, .int x2)] := hl
  unfold m_mm_worthOf at h
  refine lv_iload_n (pc := 0) hx hb d_mm_worthOf_0 rfl (lv_at hl 1 rfl) ?_
  refine lv_bipush (pc := 1) (v := 100) hx hb d_mm_worthOf_1 (by decide) ?_
  refine lv_icmp_ge (pc := 3) (tgt := 19) hx hb d_mm_worthOf_3 rfl (fun hc => ?_) (fun hc => ?_)
  · have h := mo_t hc h
    refine lv_aload_n (pc := 19) hx hb d_mm_worthOf_19 rfl (lv_at hl 0 rfl) ?_
    refine gf_mm_95 (pc := 20) hx hb hw hN hown hK hP 0 rfl rfl d_mm_worthOf_20 ?_
    refine lv_iload_n (pc := 23) hx hb d_mm_worthOf_23 rfl (lv_at hl 1 rfl) ?_
    refine lv_bipush (pc := 24) (v := 100) hx hb d_mm_worthOf_24 (by decide) ?_
    refine lv_isub (pc := 26) hx hb d_mm_worthOf_26 ?_
    obtain ⟨v27, hi27, e27, h⟩ := mo_rI_e h
    refine mo_iald (pc := 27) hx hb hK hP 2 0 rfl rfl hi27 e27 d_mm_worthOf_27 ?_
    exact mo_retIr hx hb hr hlocks hQ h d_mm_worthOf_28
  · have h := mo_f hc h
    refine lv_aload_n (pc := 6) hx hb d_mm_worthOf_6 rfl (lv_at hl 0 rfl) ?_
    refine gf_mm_28 (pc := 7) hx hb hw hN hown hK hP 0 rfl rfl d_mm_worthOf_7 ?_
    refine lv_iconst (pc := 10) (v := 2) hx hb d_mm_worthOf_10 (by decide) ?_
    refine lv_iload_n (pc := 11) hx hb d_mm_worthOf_11 rfl (lv_at hl 1 rfl) ?_
    refine lv_imul (pc := 12) hx hb d_mm_worthOf_12 ?_
    refine lv_iload_n (pc := 13) hx hb d_mm_worthOf_13 rfl (lv_at hl 2 rfl) ?_
    refine lv_iadd (pc := 14) hx hb d_mm_worthOf_14 ?_
    obtain ⟨v15, hi15, e15, h⟩ := mo_rI_e h
    refine mo_iald (pc := 15) hx hb hK hP 1 0 rfl rfl hi15 e15 d_mm_worthOf_15 ?_
    refine lv_goto (pc := 16) (tgt := 28) hx hb d_mm_worthOf_16 rfl ?_
    exact mo_retIr hx hb hr hlocks hQ h d_mm_worthOf_28
set_option maxRecDepth 100000 in
set_option maxHeartbeats 4000000 in
theorem c_mm_over (l : Launch) (D : va_G) (cI cL cZ : ClassId) (a_this : Nat) (a_inputs : Nat) (a_source : Nat) (a_index : Nat) (a_amount : Nat) (a_worth : Nat) (a_outputs : Nat) (a_secret : Nat) (a_lock : Nat) (a_id : Nat) (a_parents : Nat) (a_parent : Nat) (a_holds : Nat) (a_held : Nat) (a_blockLock : Nat) (a_hash : Nat) (a_past : Nat) (a_blues : Nat) (a_score : Nat) (a_selected : Nat) (a_orphan : Nat) (a_pool : Nat) (a_order : Nat) (a_merged : Nat) (a_accepted : Nat) (a_free : Nat) (a_coin : Nat) (v_limit : Int32) (v_made : Int32) (v_blocks : Int32) (v_dag : Int64) (v_orphans : Int32) (v_pooled : Int32) (v_places : Int32) (f_inputs : Nat → Int32) (f_source : Nat → Int32) (f_index : Nat → Int32) (f_amount : Nat → Int32) (f_worth : Nat → Int32) (f_outputs : Nat → Int32) (x1 : Int32) (o : Int32) (h : m_mm_over f_inputs f_source f_index f_amount f_worth f_outputs x1 = some o) : Met l y_mm_over (Cond.code y_mm_over b_mm_over 4 (some .int) :: WG) rm_mm_over (va_Pc [.ref a_this, .int x1] (mo_Pr D [(cI, .int), (cL, .long), (cZ, .boolean)] [(a_this, .inr (7, [.int v_limit, .int v_made, .ref a_inputs, .ref a_outputs, .ref a_source, .ref a_index, .ref a_secret, .ref a_lock, .ref a_amount, .ref a_id, .int v_blocks, .ref a_parents, .ref a_parent, .ref a_holds, .ref a_held, .ref a_blockLock, .ref a_hash, .long v_dag, .ref a_past, .ref a_blues, .ref a_score, .ref a_selected, .int v_orphans, .ref a_orphan, .int v_pooled, .ref a_pool, .int v_places, .ref a_order, .ref a_merged, .ref a_accepted, .ref a_free, .ref a_coin, .ref a_worth])), (a_inputs, .inl (cI, 41, .inl f_inputs)), (a_source, .inl (cI, 82, .inl f_source)), (a_index, .inl (cI, 82, .inl f_index)), (a_amount, .inl (cI, 82, .inl f_amount)), (a_worth, .inl (cI, 60, .inl f_worth)), (a_outputs, .inl (cI, 41, .inl f_outputs))])) (mo_Qr (some (.int o))) 0 0 (fun _ => False) := by
  refine mo_start (by decide) (Nat.le_of_ble_eq_true rfl) ?_
  intro p e s m args below meth c hx hb hr hlocks hml hown hw hv ls hl Q hQ
  obtain ⟨hP, hK, hN⟩ := hv
  have hl : lv_has ls 4 [(0, .ref a_this), (1, .int x1)] := hl
  unfold m_mm_over at h
  refine lv_iconst (pc := 0) (v := 0) hx hb d_mm_over_0 (by decide) ?_
  refine lv_istore_n (pc := 1) (lv' := [(2, .int 0), (0, .ref a_this), (1, .int x1)]) hx hb d_mm_over_1 rfl hl (by decide) rfl (fun ls hl => ?_)
  refine lv_iconst (pc := 2) (v := 0) hx hb d_mm_over_2 (by decide) ?_
  refine lv_istore_n (pc := 3) (lv' := [(3, .int 0), (2, .int 0), (0, .ref a_this), (1, .int x1)]) hx hb d_mm_over_3 rfl hl (by decide) rfl (fun ls hl => ?_)
  obtain ⟨w4, K4, eK4, hy4, hr4⟩ := mo_bd_k h
  have E4 : ∀ (y4_2 : Int32) (ls : Array Slot) (hl : lv_has ls 4 [(0, .ref a_this), (1, .int x1), (2, .int y4_2)]) (h : K4 y4_2 = some o), W p l e rm_mm_over s m args below meth c s.heap [] 0 0 Q (F0 m 47 ls []) := by
    intro y4_2 ls hl h
    have h := mo_a1 eK4 h
    try dsimp only at h
    refine lv_iconst (pc := 47) (v := 0) hx hb d_mm_over_47 (by decide) ?_
    refine lv_istore_n (pc := 48) (lv' := [(3, .int 0), (0, .ref a_this), (1, .int x1), (2, .int y4_2)]) hx hb d_mm_over_48 rfl hl (by decide) rfl (fun ls hl => ?_)
    obtain ⟨w49, K49, eK49, hy49, hr49⟩ := mo_bd_k h
    have E49 : ∀ (y49_2 : Int32) (ls : Array Slot) (hl : lv_has ls 4 [(2, .int y49_2)]) (h : K49 y49_2 = some o), W p l e rm_mm_over s m args below meth c s.heap [] 0 0 Q (F0 m 78 ls []) := by
      intro y49_2 ls hl h
      have h := mo_a1 eK49 h
      try dsimp only at h
      refine lv_iload_n (pc := 78) hx hb d_mm_over_78 rfl (lv_at hl 0 rfl) ?_
      exact mo_retIr hx hb hr hlocks hQ h d_mm_over_79
    exact mo_lp_i (step := (m_mm_over_L49 f_amount f_outputs x1)) (o := w49) (fun (x : Int32 × Int32) => match x with | (z49_2, z49_3) => ∀ (ls : Array Slot) (hl : lv_has ls 4 [(0, .ref a_this), (1, .int x1), (2, .int z49_2), (3, .int z49_3)]), W p l e rm_mm_over s m args below meth c s.heap [] 0 0 Q (F0 m 49 ls [])) (by
        rintro bk49 hb49 ⟨z49_2, z49_3⟩ h ls hl
        unfold m_mm_over_L49 at h
        try dsimp only at h
        refine lv_iload_n (pc := 49) hx hb d_mm_over_49 rfl (lv_at hl 3 rfl) ?_
        refine lv_aload_n (pc := 50) hx hb d_mm_over_50 rfl (lv_at hl 0 rfl) ?_
        refine gf_mm_13 (pc := 51) hx hb hw hN hown hK hP 0 rfl rfl d_mm_over_51 ?_
        refine lv_iload_n (pc := 54) hx hb d_mm_over_54 rfl (lv_at hl 1 rfl) ?_
        obtain ⟨v55, hi55, e55, h⟩ := mo_rI_e h
        refine mo_iald (pc := 55) hx hb hK hP 6 0 rfl rfl hi55 e55 d_mm_over_55 ?_
        refine lv_icmp_ge (pc := 56) (tgt := 78) hx hb d_mm_over_56 rfl (fun hc => ?_) (fun hc => ?_)
        · have h := mo_t hc h
          exact E49 z49_2 _ (lv_sub hl [2] rfl) (by rw [Option.some.inj h]; exact hr49)
        · have h := mo_f hc h
          refine lv_iload_n (pc := 59) hx hb d_mm_over_59 rfl (lv_at hl 2 rfl) ?_
          refine lv_aload_n (pc := 60) hx hb d_mm_over_60 rfl (lv_at hl 0 rfl) ?_
          refine gf_mm_28 (pc := 61) hx hb hw hN hown hK hP 0 rfl rfl d_mm_over_61 ?_
          refine lv_iconst (pc := 64) (v := 2) hx hb d_mm_over_64 (by decide) ?_
          refine lv_iload_n (pc := 65) hx hb d_mm_over_65 rfl (lv_at hl 1 rfl) ?_
          refine lv_imul (pc := 66) hx hb d_mm_over_66 ?_
          refine lv_iload_n (pc := 67) hx hb d_mm_over_67 rfl (lv_at hl 3 rfl) ?_
          refine lv_iadd (pc := 68) hx hb d_mm_over_68 ?_
          obtain ⟨v69, hi69, e69, h⟩ := mo_rI_e h
          refine mo_iald (pc := 69) hx hb hK hP 4 0 rfl rfl hi69 e69 d_mm_over_69 ?_
          refine lv_isub (pc := 70) hx hb d_mm_over_70 ?_
          refine lv_istore_n (pc := 71) (lv' := [(2, .int (z49_2 - v69)), (0, .ref a_this), (1, .int x1), (3, .int z49_3)]) hx hb d_mm_over_71 rfl hl (by decide) rfl (fun ls hl => ?_)
          refine lv_iinc (pc := 72) (k := 3) (v := z49_3 + 1) (lv' := [(3, .int (z49_3 + 1)), (2, .int (z49_2 - v69)), (0, .ref a_this), (1, .int x1)]) hx hb d_mm_over_72 hl rfl (mo_inc1 _) (by decide) rfl (fun ls hl => ?_)
          refine lv_goto (pc := 75) (tgt := 49) hx hb d_mm_over_75 rfl ?_
          exact hb49 (z49_2 - v69, z49_3 + 1) h _ (lv_sub hl [2, 3, 1, 0] rfl)
      ) _ _ hy49 _ (lv_sub hl [1, 2, 3, 0] rfl)
  exact mo_lp_i (step := (m_mm_over_L4 f_inputs f_source f_index f_amount f_worth x1)) (o := w4) (fun (x : Int32 × Int32) => match x with | (z4_2, z4_3) => ∀ (ls : Array Slot) (hl : lv_has ls 4 [(0, .ref a_this), (1, .int x1), (2, .int z4_2), (3, .int z4_3)]), W p l e rm_mm_over s m args below meth c s.heap [] 0 0 Q (F0 m 4 ls [])) (by
      rintro bk4 hb4 ⟨z4_2, z4_3⟩ h ls hl
      unfold m_mm_over_L4 at h
      try dsimp only at h
      refine lv_iload_n (pc := 4) hx hb d_mm_over_4 rfl (lv_at hl 3 rfl) ?_
      refine lv_aload_n (pc := 5) hx hb d_mm_over_5 rfl (lv_at hl 0 rfl) ?_
      refine gf_mm_7 (pc := 6) hx hb hw hN hown hK hP 0 rfl rfl d_mm_over_6 ?_
      refine lv_iload_n (pc := 9) hx hb d_mm_over_9 rfl (lv_at hl 1 rfl) ?_
      obtain ⟨v10, hi10, e10, h⟩ := mo_rI_e h
      refine mo_iald (pc := 10) hx hb hK hP 1 0 rfl rfl hi10 e10 d_mm_over_10 ?_
      refine lv_icmp_ge (pc := 11) (tgt := 47) hx hb d_mm_over_11 rfl (fun hc => ?_) (fun hc => ?_)
      · have h := mo_t hc h
        exact E4 z4_2 _ (lv_sub hl [0, 1, 2] rfl) (by rw [Option.some.inj h]; exact hr4)
      · have h := mo_f hc h
        refine lv_iload_n (pc := 14) hx hb d_mm_over_14 rfl (lv_at hl 2 rfl) ?_
        refine lv_aload_n (pc := 15) hx hb d_mm_over_15 rfl (lv_at hl 0 rfl) ?_
        refine lv_aload_n (pc := 16) hx hb d_mm_over_16 rfl (lv_at hl 0 rfl) ?_
        refine gf_mm_16 (pc := 17) hx hb hw hN hown hK hP 0 rfl rfl d_mm_over_17 ?_
        refine lv_iconst (pc := 20) (v := 2) hx hb d_mm_over_20 (by decide) ?_
        refine lv_iload_n (pc := 21) hx hb d_mm_over_21 rfl (lv_at hl 1 rfl) ?_
        refine lv_imul (pc := 22) hx hb d_mm_over_22 ?_
        refine lv_iload_n (pc := 23) hx hb d_mm_over_23 rfl (lv_at hl 3 rfl) ?_
        refine lv_iadd (pc := 24) hx hb d_mm_over_24 ?_
        obtain ⟨v25, hi25, e25, h⟩ := mo_rI_e h
        refine mo_iald (pc := 25) hx hb hK hP 2 0 rfl rfl hi25 e25 d_mm_over_25 ?_
        refine lv_aload_n (pc := 26) hx hb d_mm_over_26 rfl (lv_at hl 0 rfl) ?_
        refine gf_mm_19 (pc := 27) hx hb hw hN hown hK hP 0 rfl rfl d_mm_over_27 ?_
        refine lv_iconst (pc := 30) (v := 2) hx hb d_mm_over_30 (by decide) ?_
        refine lv_iload_n (pc := 31) hx hb d_mm_over_31 rfl (lv_at hl 1 rfl) ?_
        refine lv_imul (pc := 32) hx hb d_mm_over_32 ?_
        refine lv_iload_n (pc := 33) hx hb d_mm_over_33 rfl (lv_at hl 3 rfl) ?_
        refine lv_iadd (pc := 34) hx hb d_mm_over_34 ?_
        obtain ⟨v35, hi35, e35, h⟩ := mo_rI_e h
        refine mo_iald (pc := 35) hx hb hK hP 3 0 rfl rfl hi35 e35 d_mm_over_35 ?_
        obtain ⟨r36, hr36, h⟩ := mo_bd_e h
        refine mo_rV (pc := 36) (As := [.int v25, .int v35]) (rest := [.int z4_2]) (st1 := [.int r36, .int z4_2]) ⟨hx, hb, hml, hown, hw⟩ (c_mm_worthOf l D cI cL cZ a_this a_amount a_worth a_inputs a_outputs a_source a_index a_secret a_lock a_id a_parents a_parent a_holds a_held a_blockLock a_hash a_past a_blues a_score a_selected a_orphan a_pool a_order a_merged a_accepted a_free a_coin v_limit v_made v_blocks v_dag v_orphans v_pooled v_places f_amount f_worth v25 v35 r36 hr36) (kV_mm_171 hw ⟨by decide, by decide⟩) (hP.sub [0, 4, 5] rfl) hK hN rfl rfl rfl hl.1 rfl rfl d_mm_over_36 rfl ?_
        refine lv_iadd (pc := 39) hx hb d_mm_over_39 ?_
        refine lv_istore_n (pc := 40) (lv' := [(2, .int (z4_2 + r36)), (0, .ref a_this), (1, .int x1), (3, .int z4_3)]) hx hb d_mm_over_40 rfl hl (by decide) rfl (fun ls hl => ?_)
        refine lv_iinc (pc := 41) (k := 3) (v := z4_3 + 1) (lv' := [(3, .int (z4_3 + 1)), (2, .int (z4_2 + r36)), (0, .ref a_this), (1, .int x1)]) hx hb d_mm_over_41 hl rfl (mo_inc1 _) (by decide) rfl (fun ls hl => ?_)
        refine lv_goto (pc := 44) (tgt := 4) hx hb d_mm_over_44 rfl ?_
        exact hb4 (z4_2 + r36, z4_3 + 1) h _ (lv_sub hl [2, 3, 1, 0] rfl)
    ) _ _ hy4 _ (lv_sub hl [2, 3, 1, 0] rfl)
set_option maxRecDepth 100000 in
set_option maxHeartbeats 4000000 in
theorem c_mm_fits (l : Launch) (D : va_G) (cI cL cZ : ClassId) (a_this : Nat) (a_accepted : Nat) (a_inputs : Nat) (a_source : Nat) (a_index : Nat) (a_free : Nat) (a_coin : Nat) (a_lock : Nat) (a_blockLock : Nat) (a_secret : Nat) (a_amount : Nat) (a_worth : Nat) (a_outputs : Nat) (a_id : Nat) (a_parents : Nat) (a_parent : Nat) (a_holds : Nat) (a_held : Nat) (a_hash : Nat) (a_past : Nat) (a_blues : Nat) (a_score : Nat) (a_selected : Nat) (a_orphan : Nat) (a_pool : Nat) (a_order : Nat) (a_merged : Nat) (v_limit : Int32) (v_made : Int32) (v_blocks : Int32) (v_dag : Int64) (v_orphans : Int32) (v_pooled : Int32) (v_places : Int32) (f_accepted : Nat → Int32) (f_inputs : Nat → Int32) (f_source : Nat → Int32) (f_index : Nat → Int32) (f_free : Nat → Int32) (f_coin : Nat → Int32) (f_lock : Nat → Int32) (f_blockLock : Nat → Int32) (f_secret : Nat → Int32) (f_amount : Nat → Int32) (f_worth : Nat → Int32) (f_outputs : Nat → Int32) (x1 : Int32) (o : Int32) (h : m_mm_fits f_accepted f_inputs f_source f_index f_free f_coin f_lock f_blockLock f_secret f_amount f_worth f_outputs x1 = some o) : Met l y_mm_fits (Cond.code y_mm_fits b_mm_fits 5 (some .boolean) :: WG) rm_mm_fits (va_Pc [.ref a_this, .int x1] (mo_Pr D [(cI, .int), (cL, .long), (cZ, .boolean)] [(a_this, .inr (7, [.int v_limit, .int v_made, .ref a_inputs, .ref a_outputs, .ref a_source, .ref a_index, .ref a_secret, .ref a_lock, .ref a_amount, .ref a_id, .int v_blocks, .ref a_parents, .ref a_parent, .ref a_holds, .ref a_held, .ref a_blockLock, .ref a_hash, .long v_dag, .ref a_past, .ref a_blues, .ref a_score, .ref a_selected, .int v_orphans, .ref a_orphan, .int v_pooled, .ref a_pool, .int v_places, .ref a_order, .ref a_merged, .ref a_accepted, .ref a_free, .ref a_coin, .ref a_worth])), (a_accepted, .inl (cZ, 40, .inl f_accepted)), (a_inputs, .inl (cI, 41, .inl f_inputs)), (a_source, .inl (cI, 82, .inl f_source)), (a_index, .inl (cI, 82, .inl f_index)), (a_free, .inl (cZ, 80, .inl f_free)), (a_coin, .inl (cZ, 60, .inl f_coin)), (a_lock, .inl (cI, 82, .inl f_lock)), (a_blockLock, .inl (cI, 62, .inl f_blockLock)), (a_secret, .inl (cI, 82, .inl f_secret)), (a_amount, .inl (cI, 82, .inl f_amount)), (a_worth, .inl (cI, 60, .inl f_worth)), (a_outputs, .inl (cI, 41, .inl f_outputs))])) (mo_Qr (some (.int o))) 0 0 (fun _ => False) := by
  refine mo_start (by decide) (Nat.le_of_ble_eq_true rfl) ?_
  intro p e s m args below meth c hx hb hr hlocks hml hown hw hv ls hl Q hQ
  obtain ⟨hP, hK, hN⟩ := hv
  have hl : lv_has ls 5 [(0, .ref a_this), (1, .int x1)] := hl
  unfold m_mm_fits at h
  refine lv_aload_n (pc := 0) hx hb d_mm_fits_0 rfl (lv_at hl 0 rfl) ?_
  refine gf_mm_85 (pc := 1) hx hb hw hN hown hK hP 0 rfl rfl d_mm_fits_1 ?_
  refine lv_iload_n (pc := 4) hx hb d_mm_fits_4 rfl (lv_at hl 1 rfl) ?_
  obtain ⟨v5, hi5, e5, h⟩ := mo_rI_e h
  refine mo_zald (pc := 5) hx hb hK hP 1 2 rfl rfl hi5 e5 d_mm_fits_5 ?_
  refine lv_if_eq (pc := 6) (tgt := 11) hx hb d_mm_fits_6 rfl (fun hc => ?_) (fun hc => ?_)
  · have h := mo_t hc h
    refine lv_iconst (pc := 11) (v := 0) hx hb d_mm_fits_11 (by decide) ?_
    refine lv_istore_n (pc := 12) (lv' := [(2, .int 0), (0, .ref a_this), (1, .int x1)]) hx hb d_mm_fits_12 rfl hl (by decide) rfl (fun ls hl => ?_)
    obtain ⟨j89, ej89, h⟩ := mo_jn_e h
    have B89 : ∀ (ls : Array Slot) (hl : lv_has ls 5 [(0, .ref a_this), (1, .int x1)]) (h : j89 = some o), W p l e rm_mm_fits s m args below meth c s.heap [] 0 0 Q (F0 m 89 ls []) := by
      intro ls hl h
      have h := mo_a0 ej89 h
      refine lv_aload_n (pc := 89) hx hb d_mm_fits_89 rfl (lv_at hl 0 rfl) ?_
      refine gf_mm_7 (pc := 90) hx hb hw hN hown hK hP 0 rfl rfl d_mm_fits_90 ?_
      refine lv_iload_n (pc := 93) hx hb d_mm_fits_93 rfl (lv_at hl 1 rfl) ?_
      obtain ⟨v94, hi94, e94, h⟩ := mo_rI_e h
      refine mo_iald (pc := 94) hx hb hK hP 2 0 rfl rfl hi94 e94 d_mm_fits_94 ?_
      refine lv_iconst (pc := 95) (v := 2) hx hb d_mm_fits_95 (by decide) ?_
      obtain ⟨j146, ej146, h⟩ := mo_jn_e h
      have B146 : ∀ (s146_0 : Int32) (ls : Array Slot) (hl : lv_has ls 5 [(0, .ref a_this), (1, .int x1)]) (h : j146 s146_0 = some o), W p l e rm_mm_fits s m args below meth c s.heap [] 0 0 Q (F0 m 146 ls [.int s146_0]) := by
        intro s146_0 ls hl h
        have h := mo_a1 ej146 h
        refine lv_istore_n (pc := 146) (lv' := [(2, .int s146_0), (0, .ref a_this), (1, .int x1)]) hx hb d_mm_fits_146 rfl hl (by decide) rfl (fun ls hl => ?_)
        refine lv_iload_n (pc := 147) hx hb d_mm_fits_147 rfl (lv_at hl 0 rfl) ?_
        refine lv_if_ne (pc := 148) (tgt := 163) hx hb d_mm_fits_148 rfl (fun hc => ?_) (fun hc => ?_)
        · have h := mo_f hc h
          refine lv_iconst (pc := 163) (v := 0) hx hb d_mm_fits_163 (by decide) ?_
          exact mo_retZr (mo_nz (by decide)) hx hb hr hlocks hQ h d_mm_fits_164
        · have h := mo_t hc h
          refine lv_aload_n (pc := 151) hx hb d_mm_fits_151 rfl (lv_at hl 1 rfl) ?_
          refine lv_iload_n (pc := 152) hx hb d_mm_fits_152 rfl (lv_at hl 2 rfl) ?_
          obtain ⟨r153, hr153, h⟩ := mo_bd_e h
          refine mo_rV (pc := 153) (As := [.int x1]) (rest := []) (st1 := [.int r153]) ⟨hx, hb, hml, hown, hw⟩ (c_mm_over l D cI cL cZ a_this a_inputs a_source a_index a_amount a_worth a_outputs a_secret a_lock a_id a_parents a_parent a_holds a_held a_blockLock a_hash a_past a_blues a_score a_selected a_orphan a_pool a_order a_merged a_accepted a_free a_coin v_limit v_made v_blocks v_dag v_orphans v_pooled v_places f_inputs f_source f_index f_amount f_worth f_outputs x1 r153 hr153) (kV_mm_180 hw ⟨by decide, by decide⟩) (hP.sub [0, 2, 3, 4, 10, 11, 12] rfl) hK hN rfl rfl rfl hl.1 rfl rfl d_mm_fits_153 rfl ?_
          refine lv_if_lt (pc := 156) (tgt := 163) hx hb d_mm_fits_156 rfl (fun hc => ?_) (fun hc => ?_)
          · have h := mo_t hc h
            refine lv_iconst (pc := 163) (v := 0) hx hb d_mm_fits_163 (by decide) ?_
            exact mo_retZr (mo_nz (by decide)) hx hb hr hlocks hQ h d_mm_fits_164
          · have h := mo_f hc h
            refine lv_iconst (pc := 159) (v := 1) hx hb d_mm_fits_159 (by decide) ?_
            refine lv_goto (pc := 160) (tgt := 164) hx hb d_mm_fits_160 rfl ?_
            exact mo_retZr (mo_nz (by decide)) hx hb hr hlocks hQ h d_mm_fits_164
      obtain ⟨j145, ej145, h⟩ := mo_jn_e h
      have B145 : ∀ (ls : Array Slot) (hl : lv_has ls 5 [(0, .ref a_this), (1, .int x1)]) (h : j145 = some o), W p l e rm_mm_fits s m args below meth c s.heap [] 0 0 Q (F0 m 145 ls []) := by
        intro ls hl h
        have h := mo_a0 ej145 h
        refine lv_iconst (pc := 145) (v := 0) hx hb d_mm_fits_145 (by decide) ?_
        exact B146 0 _ (lv_sub hl [0, 1] rfl) h
      refine lv_icmp_ne (pc := 96) (tgt := 145) hx hb d_mm_fits_96 rfl (fun hc => ?_) (fun hc => ?_)
      · have h := mo_f hc h
        exact B145 _ (lv_sub hl [0, 1] rfl) h
      · have h := mo_t hc h
        refine lv_aload_n (pc := 99) hx hb d_mm_fits_99 rfl (lv_at hl 0 rfl) ?_
        refine gf_mm_16 (pc := 100) hx hb hw hN hown hK hP 0 rfl rfl d_mm_fits_100 ?_
        refine lv_iconst (pc := 103) (v := 2) hx hb d_mm_fits_103 (by decide) ?_
        refine lv_iload_n (pc := 104) hx hb d_mm_fits_104 rfl (lv_at hl 1 rfl) ?_
        refine lv_imul (pc := 105) hx hb d_mm_fits_105 ?_
        obtain ⟨v106, hi106, e106, h⟩ := mo_rI_e h
        refine mo_iald (pc := 106) hx hb hK hP 3 0 rfl rfl hi106 e106 d_mm_fits_106 ?_
        refine lv_aload_n (pc := 107) hx hb d_mm_fits_107 rfl (lv_at hl 0 rfl) ?_
        refine gf_mm_16 (pc := 108) hx hb hw hN hown hK hP 0 rfl rfl d_mm_fits_108 ?_
        refine lv_iconst (pc := 111) (v := 2) hx hb d_mm_fits_111 (by decide) ?_
        refine lv_iload_n (pc := 112) hx hb d_mm_fits_112 rfl (lv_at hl 1 rfl) ?_
        refine lv_imul (pc := 113) hx hb d_mm_fits_113 ?_
        refine lv_iconst (pc := 114) (v := 1) hx hb d_mm_fits_114 (by decide) ?_
        refine lv_iadd (pc := 115) hx hb d_mm_fits_115 ?_
        obtain ⟨v116, hi116, e116, h⟩ := mo_rI_e h
        refine mo_iald (pc := 116) hx hb hK hP 3 0 rfl rfl hi116 e116 d_mm_fits_116 ?_
        refine lv_icmp_ne (pc := 117) (tgt := 145) hx hb d_mm_fits_117 rfl (fun hc => ?_) (fun hc => ?_)
        · have h := mo_f hc h
          exact B145 _ (lv_sub hl [0, 1] rfl) h
        · have h := mo_t hc h
          refine lv_aload_n (pc := 120) hx hb d_mm_fits_120 rfl (lv_at hl 0 rfl) ?_
          refine gf_mm_19 (pc := 121) hx hb hw hN hown hK hP 0 rfl rfl d_mm_fits_121 ?_
          refine lv_iconst (pc := 124) (v := 2) hx hb d_mm_fits_124 (by decide) ?_
          refine lv_iload_n (pc := 125) hx hb d_mm_fits_125 rfl (lv_at hl 1 rfl) ?_
          refine lv_imul (pc := 126) hx hb d_mm_fits_126 ?_
          obtain ⟨v127, hi127, e127, h⟩ := mo_rI_e h
          refine mo_iald (pc := 127) hx hb hK hP 4 0 rfl rfl hi127 e127 d_mm_fits_127 ?_
          refine lv_aload_n (pc := 128) hx hb d_mm_fits_128 rfl (lv_at hl 0 rfl) ?_
          refine gf_mm_19 (pc := 129) hx hb hw hN hown hK hP 0 rfl rfl d_mm_fits_129 ?_
          refine lv_iconst (pc := 132) (v := 2) hx hb d_mm_fits_132 (by decide) ?_
          refine lv_iload_n (pc := 133) hx hb d_mm_fits_133 rfl (lv_at hl 1 rfl) ?_
          refine lv_imul (pc := 134) hx hb d_mm_fits_134 ?_
          refine lv_iconst (pc := 135) (v := 1) hx hb d_mm_fits_135 (by decide) ?_
          refine lv_iadd (pc := 136) hx hb d_mm_fits_136 ?_
          obtain ⟨v137, hi137, e137, h⟩ := mo_rI_e h
          refine mo_iald (pc := 137) hx hb hK hP 4 0 rfl rfl hi137 e137 d_mm_fits_137 ?_
          refine lv_icmp_ne (pc := 138) (tgt := 145) hx hb d_mm_fits_138 rfl (fun hc => ?_) (fun hc => ?_)
          · have h := mo_f hc h
            exact B145 _ (lv_sub hl [0, 1] rfl) h
          · have h := mo_t hc h
            refine lv_iconst (pc := 141) (v := 1) hx hb d_mm_fits_141 (by decide) ?_
            refine lv_goto (pc := 142) (tgt := 146) hx hb d_mm_fits_142 rfl ?_
            exact B146 1 _ (lv_sub hl [0, 1] rfl) h
    exact mo_lp_i (step := (m_mm_fits_L13 f_inputs f_source f_index f_free f_coin f_lock f_blockLock f_secret x1 j89)) (o := o) (fun (z13_2 : Int32) => ∀ (ls : Array Slot) (hl : lv_has ls 5 [(0, .ref a_this), (1, .int x1), (2, .int z13_2)]), W p l e rm_mm_fits s m args below meth c s.heap [] 0 0 Q (F0 m 13 ls [])) (by
        intro bk13 hb13 z13_2 h ls hl
        unfold m_mm_fits_L13 at h
        try dsimp only at h
        refine lv_iload_n (pc := 13) hx hb d_mm_fits_13 rfl (lv_at hl 2 rfl) ?_
        refine lv_aload_n (pc := 14) hx hb d_mm_fits_14 rfl (lv_at hl 0 rfl) ?_
        refine gf_mm_7 (pc := 15) hx hb hw hN hown hK hP 0 rfl rfl d_mm_fits_15 ?_
        refine lv_iload_n (pc := 18) hx hb d_mm_fits_18 rfl (lv_at hl 1 rfl) ?_
        obtain ⟨v19, hi19, e19, h⟩ := mo_rI_e h
        refine mo_iald (pc := 19) hx hb hK hP 2 0 rfl rfl hi19 e19 d_mm_fits_19 ?_
        refine lv_icmp_ge (pc := 20) (tgt := 89) hx hb d_mm_fits_20 rfl (fun hc => ?_) (fun hc => ?_)
        · have h := mo_t hc h
          exact B89 _ (lv_sub hl [0, 1] rfl) h
        · have h := mo_f hc h
          refine lv_aload_n (pc := 23) hx hb d_mm_fits_23 rfl (lv_at hl 0 rfl) ?_
          refine gf_mm_16 (pc := 24) hx hb hw hN hown hK hP 0 rfl rfl d_mm_fits_24 ?_
          refine lv_iconst (pc := 27) (v := 2) hx hb d_mm_fits_27 (by decide) ?_
          refine lv_iload_n (pc := 28) hx hb d_mm_fits_28 rfl (lv_at hl 1 rfl) ?_
          refine lv_imul (pc := 29) hx hb d_mm_fits_29 ?_
          refine lv_iload_n (pc := 30) hx hb d_mm_fits_30 rfl (lv_at hl 2 rfl) ?_
          refine lv_iadd (pc := 31) hx hb d_mm_fits_31 ?_
          obtain ⟨v32, hi32, e32, h⟩ := mo_rI_e h
          refine mo_iald (pc := 32) hx hb hK hP 3 0 rfl rfl hi32 e32 d_mm_fits_32 ?_
          refine lv_istore_n (pc := 33) (lv' := [(3, .int v32), (0, .ref a_this), (1, .int x1), (2, .int z13_2)]) hx hb d_mm_fits_33 rfl hl (by decide) rfl (fun ls hl => ?_)
          refine lv_aload_n (pc := 34) hx hb d_mm_fits_34 rfl (lv_at hl 1 rfl) ?_
          refine gf_mm_19 (pc := 35) hx hb hw hN hown hK hP 0 rfl rfl d_mm_fits_35 ?_
          refine lv_iconst (pc := 38) (v := 2) hx hb d_mm_fits_38 (by decide) ?_
          refine lv_iload_n (pc := 39) hx hb d_mm_fits_39 rfl (lv_at hl 2 rfl) ?_
          refine lv_imul (pc := 40) hx hb d_mm_fits_40 ?_
          refine lv_iload_n (pc := 41) hx hb d_mm_fits_41 rfl (lv_at hl 3 rfl) ?_
          refine lv_iadd (pc := 42) hx hb d_mm_fits_42 ?_
          obtain ⟨v43, hi43, e43, h⟩ := mo_rI_e h
          refine mo_iald (pc := 43) hx hb hK hP 4 0 rfl rfl hi43 e43 d_mm_fits_43 ?_
          refine lv_istore (pc := 44) (lv' := [(4, .int v43), (3, .int v32), (0, .ref a_this), (1, .int x1), (2, .int z13_2)]) hx hb d_mm_fits_44 hl (by decide) rfl (fun ls hl => ?_)
          refine lv_aload_n (pc := 46) hx hb d_mm_fits_46 rfl (lv_at hl 2 rfl) ?_
          refine lv_iload_n (pc := 47) hx hb d_mm_fits_47 rfl (lv_at hl 1 rfl) ?_
          refine lv_iload (pc := 48) hx hb d_mm_fits_48 (lv_at hl 0 rfl) ?_
          obtain ⟨r50, hr50, h⟩ := mo_bd_e h
          refine mo_rV (pc := 50) (As := [.int v32, .int v43]) (rest := []) (st1 := [.int r50]) ⟨hx, hb, hml, hown, hw⟩ (c_mm_there l D cI cL cZ a_this a_free a_coin a_inputs a_outputs a_source a_index a_secret a_lock a_amount a_id a_parents a_parent a_holds a_held a_blockLock a_hash a_past a_blues a_score a_selected a_orphan a_pool a_order a_merged a_accepted a_worth v_limit v_made v_blocks v_dag v_orphans v_pooled v_places f_free f_coin v32 v43 r50 hr50) (kV_mm_174 hw ⟨by decide, by decide⟩) (hP.sub [0, 5, 6] rfl) hK hN rfl rfl rfl hl.1 rfl rfl d_mm_fits_50 rfl ?_
          refine lv_if_eq (pc := 53) (tgt := 81) hx hb d_mm_fits_53 rfl (fun hc => ?_) (fun hc => ?_)
          · have h := mo_t hc h
            refine lv_iconst (pc := 81) (v := 0) hx hb d_mm_fits_81 (by decide) ?_
            exact mo_retZr (mo_nz (by decide)) hx hb hr hlocks hQ h d_mm_fits_82
          · have h := mo_f hc h
            refine lv_aload_n (pc := 56) hx hb d_mm_fits_56 rfl (lv_at hl 2 rfl) ?_
            refine lv_iload_n (pc := 57) hx hb d_mm_fits_57 rfl (lv_at hl 1 rfl) ?_
            refine lv_iload (pc := 58) hx hb d_mm_fits_58 (lv_at hl 0 rfl) ?_
            obtain ⟨r60, hr60, h⟩ := mo_bd_e h
            refine mo_rV (pc := 60) (As := [.int v32, .int v43]) (rest := []) (st1 := [.int r60]) ⟨hx, hb, hml, hown, hw⟩ (c_mm_lockOf l D cI cL cZ a_this a_lock a_blockLock a_inputs a_outputs a_source a_index a_secret a_amount a_id a_parents a_parent a_holds a_held a_hash a_past a_blues a_score a_selected a_orphan a_pool a_order a_merged a_accepted a_free a_coin a_worth v_limit v_made v_blocks v_dag v_orphans v_pooled v_places f_lock f_blockLock v32 v43 r60 hr60) (kV_mm_177 hw ⟨by decide, by decide⟩) (hP.sub [0, 7, 8] rfl) hK hN rfl rfl rfl hl.1 rfl rfl d_mm_fits_60 rfl ?_
            refine lv_bipush (pc := 63) (v := 7) hx hb d_mm_fits_63 (by decide) ?_
            refine lv_aload_n (pc := 65) hx hb d_mm_fits_65 rfl (lv_at hl 2 rfl) ?_
            refine gf_mm_22 (pc := 66) hx hb hw hN hown hK hP 0 rfl rfl d_mm_fits_66 ?_
            refine lv_iconst (pc := 69) (v := 2) hx hb d_mm_fits_69 (by decide) ?_
            refine lv_iload_n (pc := 70) hx hb d_mm_fits_70 rfl (lv_at hl 3 rfl) ?_
            refine lv_imul (pc := 71) hx hb d_mm_fits_71 ?_
            refine lv_iload_n (pc := 72) hx hb d_mm_fits_72 rfl (lv_at hl 4 rfl) ?_
            refine lv_iadd (pc := 73) hx hb d_mm_fits_73 ?_
            obtain ⟨v74, hi74, e74, h⟩ := mo_rI_e h
            refine mo_iald (pc := 74) hx hb hK hP 9 0 rfl rfl hi74 e74 d_mm_fits_74 ?_
            obtain ⟨r75, hr75, h⟩ := mo_bd_e h
            refine mo_rS (pc := 75) (As := [.int 7, .int v74]) (rest := [.int r60]) (st1 := [.int r75, .int r60]) ⟨hx, hb, hml, hown, hw⟩ (c_mm_mix l D cI cL cZ 7 v74 r75 hr75) (kS_mm_101 hw ⟨by decide, by decide⟩) mo_P0 hK hN rfl hl.1 rfl rfl d_mm_fits_75 rfl ?_
            refine lv_icmp_eq (pc := 78) (tgt := 83) hx hb d_mm_fits_78 rfl (fun hc => ?_) (fun hc => ?_)
            · have h := mo_t hc h
              refine lv_iinc (pc := 83) (k := 4) (v := z13_2 + 1) (lv' := [(2, .int (z13_2 + 1)), (4, .int v43), (3, .int v32), (0, .ref a_this), (1, .int x1)]) hx hb d_mm_fits_83 hl rfl (mo_inc1 _) (by decide) rfl (fun ls hl => ?_)
              refine lv_goto (pc := 86) (tgt := 13) hx hb d_mm_fits_86 rfl ?_
              exact hb13 (z13_2 + 1) h _ (lv_sub hl [3, 4, 0] rfl)
            · have h := mo_f hc h
              refine lv_iconst (pc := 81) (v := 0) hx hb d_mm_fits_81 (by decide) ?_
              exact mo_retZr (mo_nz (by decide)) hx hb hr hlocks hQ h d_mm_fits_82
      ) _ _ h _ (lv_sub hl [1, 2, 0] rfl)
  · have h := mo_f hc h
    refine lv_iconst (pc := 9) (v := 0) hx hb d_mm_fits_9 (by decide) ?_
    exact mo_retZr (mo_nz (by decide)) hx hb hr hlocks hQ h d_mm_fits_10
set_option maxRecDepth 100000 in
set_option maxHeartbeats 4000000 in
theorem c_mm_take (l : Launch) (D : va_G) (cI cL cZ : ClassId) (a_this : Nat) (a_inputs : Nat) (a_source : Nat) (a_index : Nat) (a_amount : Nat) (a_worth : Nat) (a_outputs : Nat) (a_accepted : Nat) (a_free : Nat) (a_coin : Nat) (a_secret : Nat) (a_lock : Nat) (a_id : Nat) (a_parents : Nat) (a_parent : Nat) (a_holds : Nat) (a_held : Nat) (a_blockLock : Nat) (a_hash : Nat) (a_past : Nat) (a_blues : Nat) (a_score : Nat) (a_selected : Nat) (a_orphan : Nat) (a_pool : Nat) (a_order : Nat) (a_merged : Nat) (v_limit : Int32) (v_made : Int32) (v_blocks : Int32) (v_dag : Int64) (v_orphans : Int32) (v_pooled : Int32) (v_places : Int32) (f_inputs : Nat → Int32) (f_source : Nat → Int32) (f_index : Nat → Int32) (f_amount : Nat → Int32) (f_worth : Nat → Int32) (f_outputs : Nat → Int32) (f_accepted : Nat → Int32) (f_free : Nat → Int32) (f_coin : Nat → Int32) (x1 : Int32) (o : Int32 × (Nat → Int32) × (Nat → Int32) × (Nat → Int32)) (h : m_mm_take f_inputs f_source f_index f_amount f_worth f_outputs f_accepted f_free f_coin x1 = some o) : Met l y_mm_take (Cond.code y_mm_take b_mm_take 5 (some .int) :: WG) rm_mm_take (va_Pc [.ref a_this, .int x1] (mo_Pm D [(cI, .int), (cL, .long), (cZ, .boolean)] [(a_this, .inr (7, [.int v_limit, .int v_made, .ref a_inputs, .ref a_outputs, .ref a_source, .ref a_index, .ref a_secret, .ref a_lock, .ref a_amount, .ref a_id, .int v_blocks, .ref a_parents, .ref a_parent, .ref a_holds, .ref a_held, .ref a_blockLock, .ref a_hash, .long v_dag, .ref a_past, .ref a_blues, .ref a_score, .ref a_selected, .int v_orphans, .ref a_orphan, .int v_pooled, .ref a_pool, .int v_places, .ref a_order, .ref a_merged, .ref a_accepted, .ref a_free, .ref a_coin, .ref a_worth])), (a_inputs, .inl (cI, 41, .inl f_inputs)), (a_source, .inl (cI, 82, .inl f_source)), (a_index, .inl (cI, 82, .inl f_index)), (a_amount, .inl (cI, 82, .inl f_amount)), (a_worth, .inl (cI, 60, .inl f_worth)), (a_outputs, .inl (cI, 41, .inl f_outputs)), (a_accepted, .inl (cZ, 40, .inl f_accepted)), (a_free, .inl (cZ, 80, .inl f_free)), (a_coin, .inl (cZ, 60, .inl f_coin))])) (mo_Qm D [(a_this, .inr (7, [.int v_limit, .int v_made, .ref a_inputs, .ref a_outputs, .ref a_source, .ref a_index, .ref a_secret, .ref a_lock, .ref a_amount, .ref a_id, .int v_blocks, .ref a_parents, .ref a_parent, .ref a_holds, .ref a_held, .ref a_blockLock, .ref a_hash, .long v_dag, .ref a_past, .ref a_blues, .ref a_score, .ref a_selected, .int v_orphans, .ref a_orphan, .int v_pooled, .ref a_pool, .int v_places, .ref a_order, .ref a_merged, .ref a_accepted, .ref a_free, .ref a_coin, .ref a_worth])), (a_inputs, .inl (cI, 41, .inl f_inputs)), (a_source, .inl (cI, 82, .inl f_source)), (a_index, .inl (cI, 82, .inl f_index)), (a_amount, .inl (cI, 82, .inl f_amount)), (a_worth, .inl (cI, 60, .inl f_worth)), (a_outputs, .inl (cI, 41, .inl f_outputs)), (a_accepted, .inl (cZ, 40, .inl f_accepted)), (a_free, .inl (cZ, 80, .inl f_free)), (a_coin, .inl (cZ, 60, .inl f_coin))] (fun (o : Int32 × (Nat → Int32) × (Nat → Int32) × (Nat → Int32)) => [(a_this, .inr (7, [.int v_limit, .int v_made, .ref a_inputs, .ref a_outputs, .ref a_source, .ref a_index, .ref a_secret, .ref a_lock, .ref a_amount, .ref a_id, .int v_blocks, .ref a_parents, .ref a_parent, .ref a_holds, .ref a_held, .ref a_blockLock, .ref a_hash, .long v_dag, .ref a_past, .ref a_blues, .ref a_score, .ref a_selected, .int v_orphans, .ref a_orphan, .int v_pooled, .ref a_pool, .int v_places, .ref a_order, .ref a_merged, .ref a_accepted, .ref a_free, .ref a_coin, .ref a_worth])), (a_inputs, .inl (cI, 41, .inl f_inputs)), (a_source, .inl (cI, 82, .inl f_source)), (a_index, .inl (cI, 82, .inl f_index)), (a_amount, .inl (cI, 82, .inl f_amount)), (a_worth, .inl (cI, 60, .inl f_worth)), (a_outputs, .inl (cI, 41, .inl f_outputs)), (a_accepted, .inl (cZ, 40, .inl o.2.1)), (a_free, .inl (cZ, 80, .inl o.2.2.1)), (a_coin, .inl (cZ, 60, .inl o.2.2.2))]) (fun (o : Int32 × (Nat → Int32) × (Nat → Int32) × (Nat → Int32)) => (some (.int o.1))) o) 0 0 (mo_A [(a_this, .inr (7, [.int v_limit, .int v_made, .ref a_inputs, .ref a_outputs, .ref a_source, .ref a_index, .ref a_secret, .ref a_lock, .ref a_amount, .ref a_id, .int v_blocks, .ref a_parents, .ref a_parent, .ref a_holds, .ref a_held, .ref a_blockLock, .ref a_hash, .long v_dag, .ref a_past, .ref a_blues, .ref a_score, .ref a_selected, .int v_orphans, .ref a_orphan, .int v_pooled, .ref a_pool, .int v_places, .ref a_order, .ref a_merged, .ref a_accepted, .ref a_free, .ref a_coin, .ref a_worth])), (a_inputs, .inl (cI, 41, .inl f_inputs)), (a_source, .inl (cI, 82, .inl f_source)), (a_index, .inl (cI, 82, .inl f_index)), (a_amount, .inl (cI, 82, .inl f_amount)), (a_worth, .inl (cI, 60, .inl f_worth)), (a_outputs, .inl (cI, 41, .inl f_outputs)), (a_accepted, .inl (cZ, 40, .inl f_accepted)), (a_free, .inl (cZ, 80, .inl f_free)), (a_coin, .inl (cZ, 60, .inl f_coin))]) := by
  refine mo_start (by decide) (Nat.le_of_ble_eq_true rfl) ?_
  intro p e s m args below meth c hx hb hr hlocks hml hown hw hv ls hl Q hQ
  obtain ⟨hP, hK, hN, hD0⟩ := hv
  have hl : lv_has ls 5 [(0, .ref a_this), (1, .int x1)] := hl
  obtain ⟨A, hA2⟩ : ∃ A, A = mo_A [(a_this, .inr (7, [.int v_limit, .int v_made, .ref a_inputs, .ref a_outputs, .ref a_source, .ref a_index, .ref a_secret, .ref a_lock, .ref a_amount, .ref a_id, .int v_blocks, .ref a_parents, .ref a_parent, .ref a_holds, .ref a_held, .ref a_blockLock, .ref a_hash, .long v_dag, .ref a_past, .ref a_blues, .ref a_score, .ref a_selected, .int v_orphans, .ref a_orphan, .int v_pooled, .ref a_pool, .int v_places, .ref a_order, .ref a_merged, .ref a_accepted, .ref a_free, .ref a_coin, .ref a_worth])), (a_inputs, .inl (cI, 41, .inl f_inputs)), (a_source, .inl (cI, 82, .inl f_source)), (a_index, .inl (cI, 82, .inl f_index)), (a_amount, .inl (cI, 82, .inl f_amount)), (a_worth, .inl (cI, 60, .inl f_worth)), (a_outputs, .inl (cI, 41, .inl f_outputs)), (a_accepted, .inl (cZ, 40, .inl f_accepted)), (a_free, .inl (cZ, 80, .inl f_free)), (a_coin, .inl (cZ, 60, .inl f_coin))] := ⟨_, rfl⟩
  have hD : va_D A [(a_this, .inr (7, [.int v_limit, .int v_made, .ref a_inputs, .ref a_outputs, .ref a_source, .ref a_index, .ref a_secret, .ref a_lock, .ref a_amount, .ref a_id, .int v_blocks, .ref a_parents, .ref a_parent, .ref a_holds, .ref a_held, .ref a_blockLock, .ref a_hash, .long v_dag, .ref a_past, .ref a_blues, .ref a_score, .ref a_selected, .int v_orphans, .ref a_orphan, .int v_pooled, .ref a_pool, .int v_places, .ref a_order, .ref a_merged, .ref a_accepted, .ref a_free, .ref a_coin, .ref a_worth])), (a_inputs, .inl (cI, 41, .inl f_inputs)), (a_source, .inl (cI, 82, .inl f_source)), (a_index, .inl (cI, 82, .inl f_index)), (a_amount, .inl (cI, 82, .inl f_amount)), (a_worth, .inl (cI, 60, .inl f_worth)), (a_outputs, .inl (cI, 41, .inl f_outputs)), (a_accepted, .inl (cZ, 40, .inl f_accepted)), (a_free, .inl (cZ, 80, .inl f_free)), (a_coin, .inl (cZ, 60, .inl f_coin))] := hA2 ▸ mo_self hD0
  have hS : va_S A s.heap s.heap [] := va_S.rf
  unfold m_mm_take at h
  refine lv_aload_n (pc := 0) hx hb d_mm_take_0 rfl (lv_at hl 0 rfl) ?_
  refine lv_iload_n (pc := 1) hx hb d_mm_take_1 rfl (lv_at hl 1 rfl) ?_
  obtain ⟨r2, hr2, h⟩ := mo_bd_e h
  refine mo_rV (pc := 2) (As := [.int x1]) (rest := []) (st1 := [.int r2]) ⟨hx, hb, hml, hown, hw⟩ (c_mm_over l D cI cL cZ a_this a_inputs a_source a_index a_amount a_worth a_outputs a_secret a_lock a_id a_parents a_parent a_holds a_held a_blockLock a_hash a_past a_blues a_score a_selected a_orphan a_pool a_order a_merged a_accepted a_free a_coin v_limit v_made v_blocks v_dag v_orphans v_pooled v_places f_inputs f_source f_index f_amount f_worth f_outputs x1 r2 hr2) (kV_mm_180 hw ⟨by decide, by decide⟩) (hP.sub [0, 1, 2, 3, 4, 5, 6] rfl) hK hN rfl rfl rfl hl.1 rfl rfl d_mm_take_2 rfl ?_
  refine lv_istore_n (pc := 5) (lv' := [(2, .int r2), (0, .ref a_this), (1, .int x1)]) hx hb d_mm_take_5 rfl hl (by decide) rfl (fun ls hl => ?_)
  refine lv_aload_n (pc := 6) hx hb d_mm_take_6 rfl (lv_at hl 1 rfl) ?_
  refine gf_mm_85 (pc := 7) hx hb hw hN hown hK hP 0 rfl rfl d_mm_take_7 ?_
  refine lv_iload_n (pc := 10) hx hb d_mm_take_10 rfl (lv_at hl 2 rfl) ?_
  refine lv_iconst (pc := 11) (v := 1) hx hb d_mm_take_11 (by decide) ?_
  obtain ⟨g12, hi12, e12, h⟩ := mo_wZ_e h
  refine mo_zast (pc := 12) hx hb hK hP hD hS 7 2 rfl rfl hi12 e12 d_mm_take_12 (fun H locs hP hD hS => ?_)
  have hP : va_P D cl [(a_this, .inr (7, [.int v_limit, .int v_made, .ref a_inputs, .ref a_outputs, .ref a_source, .ref a_index, .ref a_secret, .ref a_lock, .ref a_amount, .ref a_id, .int v_blocks, .ref a_parents, .ref a_parent, .ref a_holds, .ref a_held, .ref a_blockLock, .ref a_hash, .long v_dag, .ref a_past, .ref a_blues, .ref a_score, .ref a_selected, .int v_orphans, .ref a_orphan, .int v_pooled, .ref a_pool, .int v_places, .ref a_order, .ref a_merged, .ref a_accepted, .ref a_free, .ref a_coin, .ref a_worth])), (a_inputs, .inl (cI, 41, .inl f_inputs)), (a_source, .inl (cI, 82, .inl f_source)), (a_index, .inl (cI, 82, .inl f_index)), (a_amount, .inl (cI, 82, .inl f_amount)), (a_worth, .inl (cI, 60, .inl f_worth)), (a_outputs, .inl (cI, 41, .inl f_outputs)), (a_accepted, .inl (cZ, 40, .inl g12)), (a_free, .inl (cZ, 80, .inl f_free)), (a_coin, .inl (cZ, 60, .inl f_coin))] H := hP
  have hD : va_D A [(a_this, .inr (7, [.int v_limit, .int v_made, .ref a_inputs, .ref a_outputs, .ref a_source, .ref a_index, .ref a_secret, .ref a_lock, .ref a_amount, .ref a_id, .int v_blocks, .ref a_parents, .ref a_parent, .ref a_holds, .ref a_held, .ref a_blockLock, .ref a_hash, .long v_dag, .ref a_past, .ref a_blues, .ref a_score, .ref a_selected, .int v_orphans, .ref a_orphan, .int v_pooled, .ref a_pool, .int v_places, .ref a_order, .ref a_merged, .ref a_accepted, .ref a_free, .ref a_coin, .ref a_worth])), (a_inputs, .inl (cI, 41, .inl f_inputs)), (a_source, .inl (cI, 82, .inl f_source)), (a_index, .inl (cI, 82, .inl f_index)), (a_amount, .inl (cI, 82, .inl f_amount)), (a_worth, .inl (cI, 60, .inl f_worth)), (a_outputs, .inl (cI, 41, .inl f_outputs)), (a_accepted, .inl (cZ, 40, .inl g12)), (a_free, .inl (cZ, 80, .inl f_free)), (a_coin, .inl (cZ, 60, .inl f_coin))] := hD
  refine lv_iconst (pc := 13) (v := 0) hx hb d_mm_take_13 (by decide) ?_
  refine lv_istore_n (pc := 14) (lv' := [(3, .int 0), (2, .int r2), (0, .ref a_this), (1, .int x1)]) hx hb d_mm_take_14 rfl hl (by decide) rfl (fun ls hl => ?_)
  obtain ⟨w15, K15, eK15, hy15, hr15⟩ := mo_bd_k h
  have E15 : ∀ (y15_f_free : Nat → Int32) (y15_f_coin : Nat → Int32) (ls : Array Slot) (H : Heap) (locs : List Loc) (hP : va_P D cl [(a_this, .inr (7, [.int v_limit, .int v_made, .ref a_inputs, .ref a_outputs, .ref a_source, .ref a_index, .ref a_secret, .ref a_lock, .ref a_amount, .ref a_id, .int v_blocks, .ref a_parents, .ref a_parent, .ref a_holds, .ref a_held, .ref a_blockLock, .ref a_hash, .long v_dag, .ref a_past, .ref a_blues, .ref a_score, .ref a_selected, .int v_orphans, .ref a_orphan, .int v_pooled, .ref a_pool, .int v_places, .ref a_order, .ref a_merged, .ref a_accepted, .ref a_free, .ref a_coin, .ref a_worth])), (a_inputs, .inl (cI, 41, .inl f_inputs)), (a_source, .inl (cI, 82, .inl f_source)), (a_index, .inl (cI, 82, .inl f_index)), (a_amount, .inl (cI, 82, .inl f_amount)), (a_worth, .inl (cI, 60, .inl f_worth)), (a_outputs, .inl (cI, 41, .inl f_outputs)), (a_accepted, .inl (cZ, 40, .inl g12)), (a_free, .inl (cZ, 80, .inl y15_f_free)), (a_coin, .inl (cZ, 60, .inl y15_f_coin))] H) (hD : va_D A [(a_this, .inr (7, [.int v_limit, .int v_made, .ref a_inputs, .ref a_outputs, .ref a_source, .ref a_index, .ref a_secret, .ref a_lock, .ref a_amount, .ref a_id, .int v_blocks, .ref a_parents, .ref a_parent, .ref a_holds, .ref a_held, .ref a_blockLock, .ref a_hash, .long v_dag, .ref a_past, .ref a_blues, .ref a_score, .ref a_selected, .int v_orphans, .ref a_orphan, .int v_pooled, .ref a_pool, .int v_places, .ref a_order, .ref a_merged, .ref a_accepted, .ref a_free, .ref a_coin, .ref a_worth])), (a_inputs, .inl (cI, 41, .inl f_inputs)), (a_source, .inl (cI, 82, .inl f_source)), (a_index, .inl (cI, 82, .inl f_index)), (a_amount, .inl (cI, 82, .inl f_amount)), (a_worth, .inl (cI, 60, .inl f_worth)), (a_outputs, .inl (cI, 41, .inl f_outputs)), (a_accepted, .inl (cZ, 40, .inl g12)), (a_free, .inl (cZ, 80, .inl y15_f_free)), (a_coin, .inl (cZ, 60, .inl y15_f_coin))]) (hS : va_S A s.heap H locs) (hl : lv_has ls 5 [(0, .ref a_this), (1, .int x1), (2, .int r2)]) (h : K15 (y15_f_free, y15_f_coin) = some o), W p l e rm_mm_take s m args below meth c H locs 0 0 Q (F0 m 85 ls []) := by
    intro y15_f_free y15_f_coin ls H locs hP hD hS hl h
    have h := mo_a1 eK15 h
    try dsimp only at h
    refine lv_iconst (pc := 85) (v := 0) hx hb d_mm_take_85 (by decide) ?_
    refine lv_istore_n (pc := 86) (lv' := [(3, .int 0), (0, .ref a_this), (1, .int x1), (2, .int r2)]) hx hb d_mm_take_86 rfl hl (by decide) rfl (fun ls hl => ?_)
    obtain ⟨w87, K87, eK87, hy87, hr87⟩ := mo_bd_k h
    have E87 : ∀ (y87_f_free : Nat → Int32) (ls : Array Slot) (H : Heap) (locs : List Loc) (hP : va_P D cl [(a_this, .inr (7, [.int v_limit, .int v_made, .ref a_inputs, .ref a_outputs, .ref a_source, .ref a_index, .ref a_secret, .ref a_lock, .ref a_amount, .ref a_id, .int v_blocks, .ref a_parents, .ref a_parent, .ref a_holds, .ref a_held, .ref a_blockLock, .ref a_hash, .long v_dag, .ref a_past, .ref a_blues, .ref a_score, .ref a_selected, .int v_orphans, .ref a_orphan, .int v_pooled, .ref a_pool, .int v_places, .ref a_order, .ref a_merged, .ref a_accepted, .ref a_free, .ref a_coin, .ref a_worth])), (a_inputs, .inl (cI, 41, .inl f_inputs)), (a_source, .inl (cI, 82, .inl f_source)), (a_index, .inl (cI, 82, .inl f_index)), (a_amount, .inl (cI, 82, .inl f_amount)), (a_worth, .inl (cI, 60, .inl f_worth)), (a_outputs, .inl (cI, 41, .inl f_outputs)), (a_accepted, .inl (cZ, 40, .inl g12)), (a_free, .inl (cZ, 80, .inl y87_f_free)), (a_coin, .inl (cZ, 60, .inl y15_f_coin))] H) (hD : va_D A [(a_this, .inr (7, [.int v_limit, .int v_made, .ref a_inputs, .ref a_outputs, .ref a_source, .ref a_index, .ref a_secret, .ref a_lock, .ref a_amount, .ref a_id, .int v_blocks, .ref a_parents, .ref a_parent, .ref a_holds, .ref a_held, .ref a_blockLock, .ref a_hash, .long v_dag, .ref a_past, .ref a_blues, .ref a_score, .ref a_selected, .int v_orphans, .ref a_orphan, .int v_pooled, .ref a_pool, .int v_places, .ref a_order, .ref a_merged, .ref a_accepted, .ref a_free, .ref a_coin, .ref a_worth])), (a_inputs, .inl (cI, 41, .inl f_inputs)), (a_source, .inl (cI, 82, .inl f_source)), (a_index, .inl (cI, 82, .inl f_index)), (a_amount, .inl (cI, 82, .inl f_amount)), (a_worth, .inl (cI, 60, .inl f_worth)), (a_outputs, .inl (cI, 41, .inl f_outputs)), (a_accepted, .inl (cZ, 40, .inl g12)), (a_free, .inl (cZ, 80, .inl y87_f_free)), (a_coin, .inl (cZ, 60, .inl y15_f_coin))]) (hS : va_S A s.heap H locs) (hl : lv_has ls 5 [(2, .int r2)]) (h : K87 y87_f_free = some o), W p l e rm_mm_take s m args below meth c H locs 0 0 Q (F0 m 114 ls []) := by
      intro y87_f_free ls H locs hP hD hS hl h
      have h := mo_a1 eK87 h
      try dsimp only at h
      refine lv_iload_n (pc := 114) hx hb d_mm_take_114 rfl (lv_at hl 0 rfl) ?_
      exact mo_retIm hx hb hr hlocks hQ hA2 h hP hS d_mm_take_115 rfl
    exact mo_lp_i (step := (m_mm_take_L87 f_outputs x1)) (o := w87) (fun (x : Int32 × (Nat → Int32)) => match x with | (z87_3, z87_f_free) => ∀ (ls : Array Slot) (H : Heap) (locs : List Loc) (hP : va_P D cl [(a_this, .inr (7, [.int v_limit, .int v_made, .ref a_inputs, .ref a_outputs, .ref a_source, .ref a_index, .ref a_secret, .ref a_lock, .ref a_amount, .ref a_id, .int v_blocks, .ref a_parents, .ref a_parent, .ref a_holds, .ref a_held, .ref a_blockLock, .ref a_hash, .long v_dag, .ref a_past, .ref a_blues, .ref a_score, .ref a_selected, .int v_orphans, .ref a_orphan, .int v_pooled, .ref a_pool, .int v_places, .ref a_order, .ref a_merged, .ref a_accepted, .ref a_free, .ref a_coin, .ref a_worth])), (a_inputs, .inl (cI, 41, .inl f_inputs)), (a_source, .inl (cI, 82, .inl f_source)), (a_index, .inl (cI, 82, .inl f_index)), (a_amount, .inl (cI, 82, .inl f_amount)), (a_worth, .inl (cI, 60, .inl f_worth)), (a_outputs, .inl (cI, 41, .inl f_outputs)), (a_accepted, .inl (cZ, 40, .inl g12)), (a_free, .inl (cZ, 80, .inl z87_f_free)), (a_coin, .inl (cZ, 60, .inl y15_f_coin))] H) (hD : va_D A [(a_this, .inr (7, [.int v_limit, .int v_made, .ref a_inputs, .ref a_outputs, .ref a_source, .ref a_index, .ref a_secret, .ref a_lock, .ref a_amount, .ref a_id, .int v_blocks, .ref a_parents, .ref a_parent, .ref a_holds, .ref a_held, .ref a_blockLock, .ref a_hash, .long v_dag, .ref a_past, .ref a_blues, .ref a_score, .ref a_selected, .int v_orphans, .ref a_orphan, .int v_pooled, .ref a_pool, .int v_places, .ref a_order, .ref a_merged, .ref a_accepted, .ref a_free, .ref a_coin, .ref a_worth])), (a_inputs, .inl (cI, 41, .inl f_inputs)), (a_source, .inl (cI, 82, .inl f_source)), (a_index, .inl (cI, 82, .inl f_index)), (a_amount, .inl (cI, 82, .inl f_amount)), (a_worth, .inl (cI, 60, .inl f_worth)), (a_outputs, .inl (cI, 41, .inl f_outputs)), (a_accepted, .inl (cZ, 40, .inl g12)), (a_free, .inl (cZ, 80, .inl z87_f_free)), (a_coin, .inl (cZ, 60, .inl y15_f_coin))]) (hS : va_S A s.heap H locs) (hl : lv_has ls 5 [(0, .ref a_this), (1, .int x1), (2, .int r2), (3, .int z87_3)]), W p l e rm_mm_take s m args below meth c H locs 0 0 Q (F0 m 87 ls [])) (by
        rintro bk87 hb87 ⟨z87_3, z87_f_free⟩ h ls H locs hP hD hS hl
        unfold m_mm_take_L87 at h
        try dsimp only at h
        refine lv_iload_n (pc := 87) hx hb d_mm_take_87 rfl (lv_at hl 3 rfl) ?_
        refine lv_aload_n (pc := 88) hx hb d_mm_take_88 rfl (lv_at hl 0 rfl) ?_
        refine gf_mm_13 (pc := 89) hx hb hw hN hown hK hP 0 rfl rfl d_mm_take_89 ?_
        refine lv_iload_n (pc := 92) hx hb d_mm_take_92 rfl (lv_at hl 1 rfl) ?_
        obtain ⟨v93, hi93, e93, h⟩ := mo_rI_e h
        refine mo_iald (pc := 93) hx hb hK hP 6 0 rfl rfl hi93 e93 d_mm_take_93 ?_
        refine lv_icmp_ge (pc := 94) (tgt := 114) hx hb d_mm_take_94 rfl (fun hc => ?_) (fun hc => ?_)
        · have h := mo_t hc h
          exact E87 z87_f_free _ _ _ hP hD hS (lv_sub hl [2] rfl) (by rw [Option.some.inj h]; exact hr87)
        · have h := mo_f hc h
          refine lv_aload_n (pc := 97) hx hb d_mm_take_97 rfl (lv_at hl 0 rfl) ?_
          refine gf_mm_89 (pc := 98) hx hb hw hN hown hK hP 0 rfl rfl d_mm_take_98 ?_
          refine lv_iconst (pc := 101) (v := 2) hx hb d_mm_take_101 (by decide) ?_
          refine lv_iload_n (pc := 102) hx hb d_mm_take_102 rfl (lv_at hl 1 rfl) ?_
          refine lv_imul (pc := 103) hx hb d_mm_take_103 ?_
          refine lv_iload_n (pc := 104) hx hb d_mm_take_104 rfl (lv_at hl 3 rfl) ?_
          refine lv_iadd (pc := 105) hx hb d_mm_take_105 ?_
          refine lv_iconst (pc := 106) (v := 1) hx hb d_mm_take_106 (by decide) ?_
          obtain ⟨g107, hi107, e107, h⟩ := mo_wZ_e h
          refine mo_zast (pc := 107) hx hb hK hP hD hS 8 2 rfl rfl hi107 e107 d_mm_take_107 (fun H locs hP hD hS => ?_)
          have hP : va_P D cl [(a_this, .inr (7, [.int v_limit, .int v_made, .ref a_inputs, .ref a_outputs, .ref a_source, .ref a_index, .ref a_secret, .ref a_lock, .ref a_amount, .ref a_id, .int v_blocks, .ref a_parents, .ref a_parent, .ref a_holds, .ref a_held, .ref a_blockLock, .ref a_hash, .long v_dag, .ref a_past, .ref a_blues, .ref a_score, .ref a_selected, .int v_orphans, .ref a_orphan, .int v_pooled, .ref a_pool, .int v_places, .ref a_order, .ref a_merged, .ref a_accepted, .ref a_free, .ref a_coin, .ref a_worth])), (a_inputs, .inl (cI, 41, .inl f_inputs)), (a_source, .inl (cI, 82, .inl f_source)), (a_index, .inl (cI, 82, .inl f_index)), (a_amount, .inl (cI, 82, .inl f_amount)), (a_worth, .inl (cI, 60, .inl f_worth)), (a_outputs, .inl (cI, 41, .inl f_outputs)), (a_accepted, .inl (cZ, 40, .inl g12)), (a_free, .inl (cZ, 80, .inl g107)), (a_coin, .inl (cZ, 60, .inl y15_f_coin))] H := hP
          have hD : va_D A [(a_this, .inr (7, [.int v_limit, .int v_made, .ref a_inputs, .ref a_outputs, .ref a_source, .ref a_index, .ref a_secret, .ref a_lock, .ref a_amount, .ref a_id, .int v_blocks, .ref a_parents, .ref a_parent, .ref a_holds, .ref a_held, .ref a_blockLock, .ref a_hash, .long v_dag, .ref a_past, .ref a_blues, .ref a_score, .ref a_selected, .int v_orphans, .ref a_orphan, .int v_pooled, .ref a_pool, .int v_places, .ref a_order, .ref a_merged, .ref a_accepted, .ref a_free, .ref a_coin, .ref a_worth])), (a_inputs, .inl (cI, 41, .inl f_inputs)), (a_source, .inl (cI, 82, .inl f_source)), (a_index, .inl (cI, 82, .inl f_index)), (a_amount, .inl (cI, 82, .inl f_amount)), (a_worth, .inl (cI, 60, .inl f_worth)), (a_outputs, .inl (cI, 41, .inl f_outputs)), (a_accepted, .inl (cZ, 40, .inl g12)), (a_free, .inl (cZ, 80, .inl g107)), (a_coin, .inl (cZ, 60, .inl y15_f_coin))] := hD
          refine lv_iinc (pc := 108) (k := 3) (v := z87_3 + 1) (lv' := [(3, .int (z87_3 + 1)), (0, .ref a_this), (1, .int x1), (2, .int r2)]) hx hb d_mm_take_108 hl rfl (mo_inc1 _) (by decide) rfl (fun ls hl => ?_)
          refine lv_goto (pc := 111) (tgt := 87) hx hb d_mm_take_111 rfl ?_
          exact hb87 (z87_3 + 1, g107) h _ _ _ hP hD hS (lv_sub hl [1, 2, 3, 0] rfl)
      ) _ _ hy87 _ _ _ hP hD hS (lv_sub hl [1, 2, 3, 0] rfl)
  exact mo_lp_i (step := (m_mm_take_L15 f_inputs f_source f_index x1)) (o := w15) (fun (x : Int32 × (Nat → Int32) × (Nat → Int32)) => match x with | (z15_3, z15_f_free, z15_f_coin) => ∀ (ls : Array Slot) (H : Heap) (locs : List Loc) (hP : va_P D cl [(a_this, .inr (7, [.int v_limit, .int v_made, .ref a_inputs, .ref a_outputs, .ref a_source, .ref a_index, .ref a_secret, .ref a_lock, .ref a_amount, .ref a_id, .int v_blocks, .ref a_parents, .ref a_parent, .ref a_holds, .ref a_held, .ref a_blockLock, .ref a_hash, .long v_dag, .ref a_past, .ref a_blues, .ref a_score, .ref a_selected, .int v_orphans, .ref a_orphan, .int v_pooled, .ref a_pool, .int v_places, .ref a_order, .ref a_merged, .ref a_accepted, .ref a_free, .ref a_coin, .ref a_worth])), (a_inputs, .inl (cI, 41, .inl f_inputs)), (a_source, .inl (cI, 82, .inl f_source)), (a_index, .inl (cI, 82, .inl f_index)), (a_amount, .inl (cI, 82, .inl f_amount)), (a_worth, .inl (cI, 60, .inl f_worth)), (a_outputs, .inl (cI, 41, .inl f_outputs)), (a_accepted, .inl (cZ, 40, .inl g12)), (a_free, .inl (cZ, 80, .inl z15_f_free)), (a_coin, .inl (cZ, 60, .inl z15_f_coin))] H) (hD : va_D A [(a_this, .inr (7, [.int v_limit, .int v_made, .ref a_inputs, .ref a_outputs, .ref a_source, .ref a_index, .ref a_secret, .ref a_lock, .ref a_amount, .ref a_id, .int v_blocks, .ref a_parents, .ref a_parent, .ref a_holds, .ref a_held, .ref a_blockLock, .ref a_hash, .long v_dag, .ref a_past, .ref a_blues, .ref a_score, .ref a_selected, .int v_orphans, .ref a_orphan, .int v_pooled, .ref a_pool, .int v_places, .ref a_order, .ref a_merged, .ref a_accepted, .ref a_free, .ref a_coin, .ref a_worth])), (a_inputs, .inl (cI, 41, .inl f_inputs)), (a_source, .inl (cI, 82, .inl f_source)), (a_index, .inl (cI, 82, .inl f_index)), (a_amount, .inl (cI, 82, .inl f_amount)), (a_worth, .inl (cI, 60, .inl f_worth)), (a_outputs, .inl (cI, 41, .inl f_outputs)), (a_accepted, .inl (cZ, 40, .inl g12)), (a_free, .inl (cZ, 80, .inl z15_f_free)), (a_coin, .inl (cZ, 60, .inl z15_f_coin))]) (hS : va_S A s.heap H locs) (hl : lv_has ls 5 [(0, .ref a_this), (1, .int x1), (2, .int r2), (3, .int z15_3)]), W p l e rm_mm_take s m args below meth c H locs 0 0 Q (F0 m 15 ls [])) (by
      rintro bk15 hb15 ⟨z15_3, z15_f_free, z15_f_coin⟩ h ls H locs hP hD hS hl
      unfold m_mm_take_L15 at h
      try dsimp only at h
      refine lv_iload_n (pc := 15) hx hb d_mm_take_15 rfl (lv_at hl 3 rfl) ?_
      refine lv_aload_n (pc := 16) hx hb d_mm_take_16 rfl (lv_at hl 0 rfl) ?_
      refine gf_mm_7 (pc := 17) hx hb hw hN hown hK hP 0 rfl rfl d_mm_take_17 ?_
      refine lv_iload_n (pc := 20) hx hb d_mm_take_20 rfl (lv_at hl 1 rfl) ?_
      obtain ⟨v21, hi21, e21, h⟩ := mo_rI_e h
      refine mo_iald (pc := 21) hx hb hK hP 1 0 rfl rfl hi21 e21 d_mm_take_21 ?_
      refine lv_icmp_ge (pc := 22) (tgt := 85) hx hb d_mm_take_22 rfl (fun hc => ?_) (fun hc => ?_)
      · have h := mo_t hc h
        exact E15 z15_f_free z15_f_coin _ _ _ hP hD hS (lv_sub hl [0, 1, 2] rfl) (by rw [Option.some.inj h]; exact hr15)
      · have h := mo_f hc h
        refine lv_aload_n (pc := 25) hx hb d_mm_take_25 rfl (lv_at hl 0 rfl) ?_
        refine gf_mm_16 (pc := 26) hx hb hw hN hown hK hP 0 rfl rfl d_mm_take_26 ?_
        refine lv_iconst (pc := 29) (v := 2) hx hb d_mm_take_29 (by decide) ?_
        refine lv_iload_n (pc := 30) hx hb d_mm_take_30 rfl (lv_at hl 1 rfl) ?_
        refine lv_imul (pc := 31) hx hb d_mm_take_31 ?_
        refine lv_iload_n (pc := 32) hx hb d_mm_take_32 rfl (lv_at hl 3 rfl) ?_
        refine lv_iadd (pc := 33) hx hb d_mm_take_33 ?_
        obtain ⟨v34, hi34, e34, h⟩ := mo_rI_e h
        refine mo_iald (pc := 34) hx hb hK hP 2 0 rfl rfl hi34 e34 d_mm_take_34 ?_
        refine lv_istore (pc := 35) (lv' := [(4, .int v34), (0, .ref a_this), (1, .int x1), (2, .int r2), (3, .int z15_3)]) hx hb d_mm_take_35 hl (by decide) rfl (fun ls hl => ?_)
        refine lv_iload (pc := 37) hx hb d_mm_take_37 (lv_at hl 0 rfl) ?_
        refine lv_bipush (pc := 39) (v := 100) hx hb d_mm_take_39 (by decide) ?_
        obtain ⟨j79, ej79, h⟩ := mo_jn_e h
        have B79 : ∀ (y79_f_free : Nat → Int32) (y79_f_coin : Nat → Int32) (ls : Array Slot) (H : Heap) (locs : List Loc) (hP : va_P D cl [(a_this, .inr (7, [.int v_limit, .int v_made, .ref a_inputs, .ref a_outputs, .ref a_source, .ref a_index, .ref a_secret, .ref a_lock, .ref a_amount, .ref a_id, .int v_blocks, .ref a_parents, .ref a_parent, .ref a_holds, .ref a_held, .ref a_blockLock, .ref a_hash, .long v_dag, .ref a_past, .ref a_blues, .ref a_score, .ref a_selected, .int v_orphans, .ref a_orphan, .int v_pooled, .ref a_pool, .int v_places, .ref a_order, .ref a_merged, .ref a_accepted, .ref a_free, .ref a_coin, .ref a_worth])), (a_inputs, .inl (cI, 41, .inl f_inputs)), (a_source, .inl (cI, 82, .inl f_source)), (a_index, .inl (cI, 82, .inl f_index)), (a_amount, .inl (cI, 82, .inl f_amount)), (a_worth, .inl (cI, 60, .inl f_worth)), (a_outputs, .inl (cI, 41, .inl f_outputs)), (a_accepted, .inl (cZ, 40, .inl g12)), (a_free, .inl (cZ, 80, .inl y79_f_free)), (a_coin, .inl (cZ, 60, .inl y79_f_coin))] H) (hD : va_D A [(a_this, .inr (7, [.int v_limit, .int v_made, .ref a_inputs, .ref a_outputs, .ref a_source, .ref a_index, .ref a_secret, .ref a_lock, .ref a_amount, .ref a_id, .int v_blocks, .ref a_parents, .ref a_parent, .ref a_holds, .ref a_held, .ref a_blockLock, .ref a_hash, .long v_dag, .ref a_past, .ref a_blues, .ref a_score, .ref a_selected, .int v_orphans, .ref a_orphan, .int v_pooled, .ref a_pool, .int v_places, .ref a_order, .ref a_merged, .ref a_accepted, .ref a_free, .ref a_coin, .ref a_worth])), (a_inputs, .inl (cI, 41, .inl f_inputs)), (a_source, .inl (cI, 82, .inl f_source)), (a_index, .inl (cI, 82, .inl f_index)), (a_amount, .inl (cI, 82, .inl f_amount)), (a_worth, .inl (cI, 60, .inl f_worth)), (a_outputs, .inl (cI, 41, .inl f_outputs)), (a_accepted, .inl (cZ, 40, .inl g12)), (a_free, .inl (cZ, 80, .inl y79_f_free)), (a_coin, .inl (cZ, 60, .inl y79_f_coin))]) (hS : va_S A s.heap H locs) (hl : lv_has ls 5 [(0, .ref a_this), (1, .int x1), (2, .int r2), (3, .int z15_3)]) (h : j79 y79_f_free y79_f_coin = some w15), W p l e rm_mm_take s m args below meth c H locs 0 0 Q (F0 m 79 ls []) := by
          intro y79_f_free y79_f_coin ls H locs hP hD hS hl h
          have h := mo_a2 ej79 h
          refine lv_iinc (pc := 79) (k := 3) (v := z15_3 + 1) (lv' := [(3, .int (z15_3 + 1)), (0, .ref a_this), (1, .int x1), (2, .int r2)]) hx hb d_mm_take_79 hl rfl (mo_inc1 _) (by decide) rfl (fun ls hl => ?_)
          refine lv_goto (pc := 82) (tgt := 15) hx hb d_mm_take_82 rfl ?_
          exact hb15 (z15_3 + 1, y79_f_free, y79_f_coin) h _ _ _ hP hD hS (lv_sub hl [1, 2, 3, 0] rfl)
        refine lv_icmp_ge (pc := 41) (tgt := 68) hx hb d_mm_take_41 rfl (fun hc => ?_) (fun hc => ?_)
        · have h := mo_t hc h
          refine lv_aload_n (pc := 68) hx hb d_mm_take_68 rfl (lv_at hl 1 rfl) ?_
          refine gf_mm_92 (pc := 69) hx hb hw hN hown hK hP 0 rfl rfl d_mm_take_69 ?_
          refine lv_iload (pc := 72) hx hb d_mm_take_72 (lv_at hl 0 rfl) ?_
          refine lv_bipush (pc := 74) (v := 100) hx hb d_mm_take_74 (by decide) ?_
          refine lv_isub (pc := 76) hx hb d_mm_take_76 ?_
          refine lv_iconst (pc := 77) (v := 0) hx hb d_mm_take_77 (by decide) ?_
          obtain ⟨g78, hi78, e78, h⟩ := mo_wZ_e h
          refine mo_zast (pc := 78) hx hb hK hP hD hS 9 2 rfl rfl hi78 e78 d_mm_take_78 (fun H locs hP hD hS => ?_)
          have hP : va_P D cl [(a_this, .inr (7, [.int v_limit, .int v_made, .ref a_inputs, .ref a_outputs, .ref a_source, .ref a_index, .ref a_secret, .ref a_lock, .ref a_amount, .ref a_id, .int v_blocks, .ref a_parents, .ref a_parent, .ref a_holds, .ref a_held, .ref a_blockLock, .ref a_hash, .long v_dag, .ref a_past, .ref a_blues, .ref a_score, .ref a_selected, .int v_orphans, .ref a_orphan, .int v_pooled, .ref a_pool, .int v_places, .ref a_order, .ref a_merged, .ref a_accepted, .ref a_free, .ref a_coin, .ref a_worth])), (a_inputs, .inl (cI, 41, .inl f_inputs)), (a_source, .inl (cI, 82, .inl f_source)), (a_index, .inl (cI, 82, .inl f_index)), (a_amount, .inl (cI, 82, .inl f_amount)), (a_worth, .inl (cI, 60, .inl f_worth)), (a_outputs, .inl (cI, 41, .inl f_outputs)), (a_accepted, .inl (cZ, 40, .inl g12)), (a_free, .inl (cZ, 80, .inl z15_f_free)), (a_coin, .inl (cZ, 60, .inl g78))] H := hP
          have hD : va_D A [(a_this, .inr (7, [.int v_limit, .int v_made, .ref a_inputs, .ref a_outputs, .ref a_source, .ref a_index, .ref a_secret, .ref a_lock, .ref a_amount, .ref a_id, .int v_blocks, .ref a_parents, .ref a_parent, .ref a_holds, .ref a_held, .ref a_blockLock, .ref a_hash, .long v_dag, .ref a_past, .ref a_blues, .ref a_score, .ref a_selected, .int v_orphans, .ref a_orphan, .int v_pooled, .ref a_pool, .int v_places, .ref a_order, .ref a_merged, .ref a_accepted, .ref a_free, .ref a_coin, .ref a_worth])), (a_inputs, .inl (cI, 41, .inl f_inputs)), (a_source, .inl (cI, 82, .inl f_source)), (a_index, .inl (cI, 82, .inl f_index)), (a_amount, .inl (cI, 82, .inl f_amount)), (a_worth, .inl (cI, 60, .inl f_worth)), (a_outputs, .inl (cI, 41, .inl f_outputs)), (a_accepted, .inl (cZ, 40, .inl g12)), (a_free, .inl (cZ, 80, .inl z15_f_free)), (a_coin, .inl (cZ, 60, .inl g78))] := hD
          exact B79 z15_f_free g78 _ _ _ hP hD hS (lv_sub hl [1, 2, 3, 4] rfl) h
        · have h := mo_f hc h
          refine lv_aload_n (pc := 44) hx hb d_mm_take_44 rfl (lv_at hl 1 rfl) ?_
          refine gf_mm_89 (pc := 45) hx hb hw hN hown hK hP 0 rfl rfl d_mm_take_45 ?_
          refine lv_iconst (pc := 48) (v := 2) hx hb d_mm_take_48 (by decide) ?_
          refine lv_iload (pc := 49) hx hb d_mm_take_49 (lv_at hl 0 rfl) ?_
          refine lv_imul (pc := 51) hx hb d_mm_take_51 ?_
          refine lv_aload_n (pc := 52) hx hb d_mm_take_52 rfl (lv_at hl 1 rfl) ?_
          refine gf_mm_19 (pc := 53) hx hb hw hN hown hK hP 0 rfl rfl d_mm_take_53 ?_
          refine lv_iconst (pc := 56) (v := 2) hx hb d_mm_take_56 (by decide) ?_
          refine lv_iload_n (pc := 57) hx hb d_mm_take_57 rfl (lv_at hl 2 rfl) ?_
          refine lv_imul (pc := 58) hx hb d_mm_take_58 ?_
          refine lv_iload_n (pc := 59) hx hb d_mm_take_59 rfl (lv_at hl 4 rfl) ?_
          refine lv_iadd (pc := 60) hx hb d_mm_take_60 ?_
          obtain ⟨v61, hi61, e61, h⟩ := mo_rI_e h
          refine mo_iald (pc := 61) hx hb hK hP 3 0 rfl rfl hi61 e61 d_mm_take_61 ?_
          refine lv_iadd (pc := 62) hx hb d_mm_take_62 ?_
          refine lv_iconst (pc := 63) (v := 0) hx hb d_mm_take_63 (by decide) ?_
          obtain ⟨g64, hi64, e64, h⟩ := mo_wZ_e h
          refine mo_zast (pc := 64) hx hb hK hP hD hS 8 2 rfl rfl hi64 e64 d_mm_take_64 (fun H locs hP hD hS => ?_)
          have hP : va_P D cl [(a_this, .inr (7, [.int v_limit, .int v_made, .ref a_inputs, .ref a_outputs, .ref a_source, .ref a_index, .ref a_secret, .ref a_lock, .ref a_amount, .ref a_id, .int v_blocks, .ref a_parents, .ref a_parent, .ref a_holds, .ref a_held, .ref a_blockLock, .ref a_hash, .long v_dag, .ref a_past, .ref a_blues, .ref a_score, .ref a_selected, .int v_orphans, .ref a_orphan, .int v_pooled, .ref a_pool, .int v_places, .ref a_order, .ref a_merged, .ref a_accepted, .ref a_free, .ref a_coin, .ref a_worth])), (a_inputs, .inl (cI, 41, .inl f_inputs)), (a_source, .inl (cI, 82, .inl f_source)), (a_index, .inl (cI, 82, .inl f_index)), (a_amount, .inl (cI, 82, .inl f_amount)), (a_worth, .inl (cI, 60, .inl f_worth)), (a_outputs, .inl (cI, 41, .inl f_outputs)), (a_accepted, .inl (cZ, 40, .inl g12)), (a_free, .inl (cZ, 80, .inl g64)), (a_coin, .inl (cZ, 60, .inl z15_f_coin))] H := hP
          have hD : va_D A [(a_this, .inr (7, [.int v_limit, .int v_made, .ref a_inputs, .ref a_outputs, .ref a_source, .ref a_index, .ref a_secret, .ref a_lock, .ref a_amount, .ref a_id, .int v_blocks, .ref a_parents, .ref a_parent, .ref a_holds, .ref a_held, .ref a_blockLock, .ref a_hash, .long v_dag, .ref a_past, .ref a_blues, .ref a_score, .ref a_selected, .int v_orphans, .ref a_orphan, .int v_pooled, .ref a_pool, .int v_places, .ref a_order, .ref a_merged, .ref a_accepted, .ref a_free, .ref a_coin, .ref a_worth])), (a_inputs, .inl (cI, 41, .inl f_inputs)), (a_source, .inl (cI, 82, .inl f_source)), (a_index, .inl (cI, 82, .inl f_index)), (a_amount, .inl (cI, 82, .inl f_amount)), (a_worth, .inl (cI, 60, .inl f_worth)), (a_outputs, .inl (cI, 41, .inl f_outputs)), (a_accepted, .inl (cZ, 40, .inl g12)), (a_free, .inl (cZ, 80, .inl g64)), (a_coin, .inl (cZ, 60, .inl z15_f_coin))] := hD
          refine lv_goto (pc := 65) (tgt := 79) hx hb d_mm_take_65 rfl ?_
          exact B79 g64 z15_f_coin _ _ _ hP hD hS (lv_sub hl [1, 2, 3, 4] rfl) h
    ) _ _ hy15 _ _ _ hP hD hS (lv_sub hl [2, 3, 1, 0] rfl)
