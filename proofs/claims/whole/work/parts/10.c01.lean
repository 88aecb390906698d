set_option maxRecDepth 100000 in
set_option maxHeartbeats 4000000 in
theorem c_bm_mix (l : Launch) (D : va_G) (cI cL cZ : ClassId) (x0 : Int32) (x1 : Int32) (o : Int32) (h : m_bm_mix x0 x1 = some o) : Met l y_bm_mix (Cond.code y_bm_mix b_bm_mix 3 (some .int) :: WG) rm_bm_mix (va_Pc [.int x0, .int x1] (mo_Pr D [(cI, .int), (cL, .long), (cZ, .boolean)] [])) (mo_Qr (some (.int o))) 0 0 (fun _ => False) := by
  refine mo_start (by decide) (Nat.le_of_ble_eq_true rfl) ?_
  intro p e s m args below meth c hx hb hr hlocks hml hown hw hv ls hl Q hQ
  obtain ⟨hP, hK, hN⟩ := hv
  have hl : lv_has ls 3 [(0, .int x0), (1, .int x1)] := hl
  unfold m_bm_mix at h
  refine lv_iload_n (pc := 0) hx hb d_bm_mix_0 rfl (lv_at hl 0 rfl) ?_
  refine lv_ldcw (pc := 1) (v := 668265263) hx hb hown (hw _ wd_1_80) d_bm_mix_1 ?_
  refine lv_imul (pc := 4) hx hb d_bm_mix_4 ?_
  refine lv_iload_n (pc := 5) hx hb d_bm_mix_5 rfl (lv_at hl 1 rfl) ?_
  refine lv_iadd (pc := 6) hx hb d_bm_mix_6 ?_
  refine lv_istore_n (pc := 7) (lv' := [(2, .int ((x0 * 668265263) + x1)), (0, .int x0), (1, .int x1)]) hx hb d_bm_mix_7 rfl hl (by decide) rfl (fun ls hl => ?_)
  refine lv_iload_n (pc := 8) hx hb d_bm_mix_8 rfl (lv_at hl 0 rfl) ?_
  refine lv_iload_n (pc := 9) hx hb d_bm_mix_9 rfl (lv_at hl 0 rfl) ?_
  refine lv_bipush (pc := 10) (v := 13) hx hb d_bm_mix_10 (by decide) ?_
  refine lv_iushr (pc := 12) hx hb d_bm_mix_12 rfl ?_
  refine lv_ixor (pc := 13) hx hb d_bm_mix_13 ?_
  exact mo_retIr hx hb hr hlocks hQ h d_bm_mix_14
set_option maxRecDepth 100000 in
set_option maxHeartbeats 4000000 in
theorem c_bl_parentAt (l : Launch) (D : va_G) (cI cL cZ : ClassId) (a_this : Nat) (a_parents : Nat) (a_parentCounts : Nat) (a_includedCounts : Nat) (a_included : Nat) (a_locks : Nat) (a_hashes : Nat) (v_made : Int32) (f_parents : Nat → Int32) (x1 : Int32) (x2 : Int32) (o : Int32) (h : m_bl_parentAt f_parents x1 x2 = some o) : Met l y_bl_parentAt (Cond.code y_bl_parentAt b_bl_parentAt 3 (some .int) :: WG) rm_bl_parentAt (va_Pc [.ref a_this, .int x1, .int x2] (mo_Pr D [(cI, .int), (cL, .long), (cZ, .boolean)] [(a_this, .inr (2, [.int v_made, .ref a_parentCounts, .ref a_parents, .ref a_includedCounts, .ref a_included, .ref a_locks, .ref a_hashes])), (a_parents, .inl (cI, 240, .inl f_parents))])) (mo_Qr (some (.int o))) 0 0 (fun _ => False) := by
  refine mo_start (by decide) (Nat.le_of_ble_eq_true rfl) ?_
  intro p e s m args below meth c hx hb hr hlocks hml hown hw hv ls hl Q hQ
  obtain ⟨hP, hK, hN⟩ := hv
  have hl : lv_has ls 3 [(0, .ref a_this), (1, .int x1), (2, .int x2)] := hl
  unfold m_bl_parentAt at h
  refine lv_aload_n (pc := 0) hx hb d_bl_parentAt_0 rfl (lv_at hl 0 rfl) ?_
  refine gf_bl_15 (pc := 1) hx hb hw hN hown hK hP 0 rfl rfl d_bl_parentAt_1 ?_
  refine lv_iload_n (pc := 4) hx hb d_bl_parentAt_4 rfl (lv_at hl 1 rfl) ?_
  refine lv_iconst (pc := 5) (v := 4) hx hb d_bl_parentAt_5 (by decide) ?_
  refine lv_imul (pc := 6) hx hb d_bl_parentAt_6 ?_
  refine lv_iload_n (pc := 7) hx hb d_bl_parentAt_7 rfl (lv_at hl 2 rfl) ?_
  refine lv_iadd (pc := 8) hx hb d_bl_parentAt_8 ?_
  obtain ⟨v9, hi9, e9, h⟩ := mo_rI_e h
  refine mo_iald (pc := 9) hx hb hK hP 1 0 rfl rfl hi9 e9 d_bl_parentAt_9 ?_
  exact mo_retIr hx hb hr hlocks hQ h d_bl_parentAt_10
set_option maxRecDepth 100000 in
set_option maxHeartbeats 4000000 in
theorem c_bm_bit (l : Launch) (D : va_G) (cI cL cZ : ClassId) (x0 : Int32) (o : Int64) (h : m_bm_bit x0 = some o) : Met l y_bm_bit (Cond.code y_bm_bit b_bm_bit 1 (some .long) :: WG) rm_bm_bit (va_Pc [.int x0] (mo_Pr D [(cI, .int), (cL, .long), (cZ, .boolean)] [])) (mo_Qr (some (.long o))) 0 0 (fun _ => False) := by
  refine mo_start (by decide) (Nat.le_of_ble_eq_true rfl) ?_
  intro p e s m args below meth c hx hb hr hlocks hml hown hw hv ls hl Q hQ
  obtain ⟨hP, hK, hN⟩ := hv
  have hl : lv_has ls 1 [(0, .int x0)] := hl
  unfold m_bm_bit at h
  refine lv_lconst (pc := 0) (v := 1) hx hb d_bm_bit_0 (by decide) ?_
  refine lv_iload_n (pc := 1) hx hb d_bm_bit_1 rfl (lv_at hl 0 rfl) ?_
  refine lv_lshl (pc := 2) hx hb d_bm_bit_2 rfl ?_
  exact mo_retLr hx hb hr hlocks hQ h d_bm_bit_3
set_option maxRecDepth 100000 in
set_option maxHeartbeats 4000000 in
theorem c_bl_parentSet (l : Launch) (D : va_G) (cI cL cZ : ClassId) (a_this : Nat) (a_parentCounts : Nat) (a_parents : Nat) (a_includedCounts : Nat) (a_included : Nat) (a_locks : Nat) (a_hashes : Nat) (v_made : Int32) (f_parentCounts : Nat → Int32) (f_parents : Nat → Int32) (x1 : Int32) (o : Int64) (h : m_bl_parentSet f_parentCounts f_parents x1 = some o) : Met l y_bl_parentSet (Cond.code y_bl_parentSet b_bl_parentSet 5 (some .long) :: WG) rm_bl_parentSet (va_Pc [.ref a_this, .int x1] (mo_Pr D [(cI, .int), (cL, .long), (cZ, .boolean)] [(a_this, .inr (2, [.int v_made, .ref a_parentCounts, .ref a_parents, .ref a_includedCounts, .ref a_included, .ref a_locks, .ref a_hashes])), (a_parentCounts, .inl (cI, 60, .inl f_parentCounts)), (a_parents, .inl (cI, 240, .inl f_parents))])) (mo_Qr (some (.long o))) 0 0 (fun _ => False) := by
  refine mo_start (by decide) (Nat.le_of_ble_eq_true rfl) ?_
  intro p e s m args below meth c hx hb hr hlocks hml hown hw hv ls hl Q hQ
  obtain ⟨hP, hK, hN⟩ := hv
  have hl : lv_has ls 5 [(0, .ref a_this), (1, .int x1)] := hl
  unfold m_bl_parentSet at h
  refine lv_lconst (pc := 0) (v := 0) hx hb d_bl_parentSet_0 (by decide) ?_
  refine lv_lstore_n (pc := 1) (lv' := [(2, .long 0), (0, .ref a_this), (1, .int x1)]) hx hb d_bl_parentSet_1 rfl hl (by decide) rfl (fun ls hl => ?_)
  refine lv_iconst (pc := 2) (v := 0) hx hb d_bl_parentSet_2 (by decide) ?_
  refine lv_istore (pc := 3) (lv' := [(4, .int 0), (2, .long 0), (0, .ref a_this), (1, .int x1)]) hx hb d_bl_parentSet_3 hl (by decide) rfl (fun ls hl => ?_)
  obtain ⟨w5, K5, eK5, hy5, hr5⟩ := mo_bd_k h
  have E5 : ∀ (y5_2 : Int64) (ls : Array Slot) (hl : lv_has ls 5 [(2, .long y5_2)]) (h : K5 y5_2 = some o), W p l e rm_bl_parentSet s m args below meth c s.heap [] 0 0 Q (F0 m 35 ls []) := by
    intro y5_2 ls hl h
    have h := mo_a1 eK5 h
    try dsimp only at h
    refine lv_lload_n (pc := 35) hx hb d_bl_parentSet_35 rfl (lv_at hl 0 rfl) ?_
    exact mo_retLr hx hb hr hlocks hQ h d_bl_parentSet_36
  exact mo_lp_i (step := (m_bl_parentSet_L5 f_parentCounts f_parents x1)) (o := w5) (fun (x : Int64 × Int32) => match x with | (z5_2, z5_4) => ∀ (ls : Array Slot) (hl : lv_has ls 5 [(0, .ref a_this), (1, .int x1), (2, .long z5_2), (4, .int z5_4)]), W p l e rm_bl_parentSet s m args below meth c s.heap [] 0 0 Q (F0 m 5 ls [])) (by
      rintro bk5 hb5 ⟨z5_2, z5_4⟩ h ls hl
      unfold m_bl_parentSet_L5 at h
      try dsimp only at h
      refine lv_iload (pc := 5) hx hb d_bl_parentSet_5 (lv_at hl 3 rfl) ?_
      refine lv_aload_n (pc := 7) hx hb d_bl_parentSet_7 rfl (lv_at hl 0 rfl) ?_
      refine gf_bl_9 (pc := 8) hx hb hw hN hown hK hP 0 rfl rfl d_bl_parentSet_8 ?_
      refine lv_iload_n (pc := 11) hx hb d_bl_parentSet_11 rfl (lv_at hl 1 rfl) ?_
      obtain ⟨v12, hi12, e12, h⟩ := mo_rI_e h
      refine mo_iald (pc := 12) hx hb hK hP 1 0 rfl rfl hi12 e12 d_bl_parentSet_12 ?_
      refine lv_icmp_ge (pc := 13) (tgt := 35) hx hb d_bl_parentSet_13 rfl (fun hc => ?_) (fun hc => ?_)
      · have h := mo_t hc h
        exact E5 z5_2 _ (lv_sub hl [2] rfl) (by rw [Option.some.inj h]; exact hr5)
      · have h := mo_f hc h
        refine lv_lload_n (pc := 16) hx hb d_bl_parentSet_16 rfl (lv_at hl 2 rfl) ?_
        refine lv_aload_n (pc := 17) hx hb d_bl_parentSet_17 rfl (lv_at hl 0 rfl) ?_
        refine lv_iload_n (pc := 18) hx hb d_bl_parentSet_18 rfl (lv_at hl 1 rfl) ?_
        refine lv_iload (pc := 19) hx hb d_bl_parentSet_19 (lv_at hl 3 rfl) ?_
        obtain ⟨r21, hr21, h⟩ := mo_bd_e h
        refine mo_rV (pc := 21) (As := [.int x1, .int z5_4]) (rest := [.long z5_2]) (st1 := [.int r21, .long z5_2]) ⟨hx, hb, hml, hown, hw⟩ (c_bl_parentAt l D cI cL cZ a_this a_parents a_parentCounts a_includedCounts a_included a_locks a_hashes v_made f_parents x1 z5_4 r21 hr21) (kV_bl_40 hw ⟨by decide, by decide⟩) (hP.sub [0, 2] rfl) hK hN rfl rfl rfl hl.1 rfl rfl d_bl_parentSet_21 rfl ?_
        obtain ⟨r24, hr24, h⟩ := mo_bd_e h
        refine mo_rSN (pc := 24) (As := [.int r21]) (rest := [.long z5_2]) (st1 := [.long r24, .long z5_2]) ⟨hx, hb, hml, hown, hw⟩ (c_bm_bit l D cI cL cZ r21 r24 hr24) (kSN_bl_43 hw hN ⟨by decide, by decide⟩) mo_P0 hK hN rfl hl.1 rfl rfl d_bl_parentSet_24 rfl ?_
        refine lv_lor (pc := 27) hx hb d_bl_parentSet_27 ?_
        refine lv_lstore_n (pc := 28) (lv' := [(2, .long (z5_2 ||| r24)), (0, .ref a_this), (1, .int x1), (4, .int z5_4)]) hx hb d_bl_parentSet_28 rfl hl (by decide) rfl (fun ls hl => ?_)
        refine lv_iinc (pc := 29) (k := 3) (v := z5_4 + 1) (lv' := [(4, .int (z5_4 + 1)), (2, .long (z5_2 ||| r24)), (0, .ref a_this), (1, .int x1)]) hx hb d_bl_parentSet_29 hl rfl (mo_inc1 _) (by decide) rfl (fun ls hl => ?_)
        refine lv_goto (pc := 32) (tgt := 5) hx hb d_bl_parentSet_32 rfl ?_
        exact hb5 (z5_2 ||| r24, z5_4 + 1) h _ (lv_sub hl [2, 3, 1, 0] rfl)
    ) _ _ hy5 _ (lv_sub hl [2, 3, 1, 0] rfl)
set_option maxRecDepth 100000 in
set_option maxHeartbeats 4000000 in
theorem c_bm_holds (l : Launch) (D : va_G) (cI cL cZ : ClassId) (x0 : Int64) (x2 : Int32) (o : Int32) (h : m_bm_holds x0 x2 = some o) : Met l y_bm_holds (Cond.code y_bm_holds b_bm_holds 3 (some .boolean) :: WG) rm_bm_holds (va_Pc [.long x0, .int x2] (mo_Pr D [(cI, .int), (cL, .long), (cZ, .boolean)] [])) (mo_Qr (some (.int o))) 0 0 (fun _ => False) := by
  refine mo_start (by decide) (Nat.le_of_ble_eq_true rfl) ?_
  intro p e s m args below meth c hx hb hr hlocks hml hown hw hv ls hl Q hQ
  obtain ⟨hP, hK, hN⟩ := hv
  have hl : lv_has ls 3 [(0, .long x0), (2, .int x2)] := hl
  unfold m_bm_holds at h
  refine lv_lload_n (pc := 0) hx hb d_bm_holds_0 rfl (lv_at hl 0 rfl) ?_
  refine lv_iload_n (pc := 1) hx hb d_bm_holds_1 rfl (lv_at hl 1 rfl) ?_
  refine lv_lushr (pc := 2) hx hb d_bm_holds_2 rfl ?_
  refine lv_lconst (pc := 3) (v := 1) hx hb d_bm_holds_3 (by decide) ?_
  refine lv_land (pc := 4) hx hb d_bm_holds_4 ?_
  refine lv_lconst (pc := 5) (v := 0) hx hb d_bm_holds_5 (by decide) ?_
  refine mo_lcmpeq (pc := 6) (tgt := 14) hx hb d_bm_holds_6 d_bm_holds_7 rfl (fun hc => ?_) (fun hc => ?_)
  · have h := mo_t hc h
    refine lv_iconst (pc := 14) (v := 0) hx hb d_bm_holds_14 (by decide) ?_
    exact mo_retZr (mo_nz (by decide)) hx hb hr hlocks hQ h d_bm_holds_15
  · have h := mo_f hc h
    refine lv_iconst (pc := 10) (v := 1) hx hb d_bm_holds_10 (by decide) ?_
    refine lv_goto (pc := 11) (tgt := 15) hx hb d_bm_holds_11 rfl ?_
    exact mo_retZr (mo_nz (by decide)) hx hb hr hlocks hQ h d_bm_holds_15
set_option maxRecDepth 100000 in
set_option maxHeartbeats 4000000 in
theorem c_bl_isEarlier (l : Launch) (D : va_G) (cI cL cZ : ClassId) (a_this : Nat) (a_hashes : Nat) (a_parentCounts : Nat) (a_parents : Nat) (a_includedCounts : Nat) (a_included : Nat) (a_locks : Nat) (v_made : Int32) (f_hashes : Nat → Int32) (x1 : Int32) (x2 : Int32) (o : Int32) (h : m_bl_isEarlier f_hashes x1 x2 = some o) : Met l y_bl_isEarlier (Cond.code y_bl_isEarlier b_bl_isEarlier 3 (some .boolean) :: WG) rm_bl_isEarlier (va_Pc [.ref a_this, .int x1, .int x2] (mo_Pr D [(cI, .int), (cL, .long), (cZ, .boolean)] [(a_this, .inr (2, [.int v_made, .ref a_parentCounts, .ref a_parents, .ref a_includedCounts, .ref a_included, .ref a_locks, .ref a_hashes])), (a_hashes, .inl (cI, 60, .inl f_hashes))])) (mo_Qr (some (.int o))) 0 0 (fun _ => False) := by
  refine mo_start (by decide) (Nat.le_of_ble_eq_true rfl) ?_
  intro p e s m args below meth c hx hb hr hlocks hml hown hw hv ls hl Q hQ
  obtain ⟨hP, hK, hN⟩ := hv
  have hl : lv_has ls 3 [(0, .ref a_this), (1, .int x1), (2, .int x2)] := hl
  unfold m_bl_isEarlier at h
  refine lv_aload_n (pc := 0) hx hb d_bl_isEarlier_0 rfl (lv_at hl 0 rfl) ?_
  refine gf_bl_27 (pc := 1) hx hb hw hN hown hK hP 0 rfl rfl d_bl_isEarlier_1 ?_
  refine lv_iload_n (pc := 4) hx hb d_bl_isEarlier_4 rfl (lv_at hl 1 rfl) ?_
  obtain ⟨v5, hi5, e5, h⟩ := mo_rI_e h
  refine mo_iald (pc := 5) hx hb hK hP 1 0 rfl rfl hi5 e5 d_bl_isEarlier_5 ?_
  refine lv_aload_n (pc := 6) hx hb d_bl_isEarlier_6 rfl (lv_at hl 0 rfl) ?_
  refine gf_bl_27 (pc := 7) hx hb hw hN hown hK hP 0 rfl rfl d_bl_isEarlier_7 ?_
  refine lv_iload_n (pc := 10) hx hb d_bl_isEarlier_10 rfl (lv_at hl 2 rfl) ?_
  obtain ⟨v11, hi11, e11, h⟩ := mo_rI_e h
  refine mo_iald (pc := 11) hx hb hK hP 1 0 rfl rfl hi11 e11 d_bl_isEarlier_11 ?_
  refine lv_icmp_eq (pc := 12) (tgt := 38) hx hb d_bl_isEarlier_12 rfl (fun hc => ?_) (fun hc => ?_)
  · have h := mo_t hc h
    refine lv_iload_n (pc := 38) hx hb d_bl_isEarlier_38 rfl (lv_at hl 1 rfl) ?_
    refine lv_iload_n (pc := 39) hx hb d_bl_isEarlier_39 rfl (lv_at hl 2 rfl) ?_
    refine lv_icmp_ge (pc := 40) (tgt := 47) hx hb d_bl_isEarlier_40 rfl (fun hc => ?_) (fun hc => ?_)
    · have h := mo_t hc h
      refine lv_iconst (pc := 47) (v := 0) hx hb d_bl_isEarlier_47 (by decide) ?_
      exact mo_retZr (mo_nz (by decide)) hx hb hr hlocks hQ h d_bl_isEarlier_48
    · have h := mo_f hc h
      refine lv_iconst (pc := 43) (v := 1) hx hb d_bl_isEarlier_43 (by decide) ?_
      refine lv_goto (pc := 44) (tgt := 48) hx hb d_bl_isEarlier_44 rfl ?_
      exact mo_retZr (mo_nz (by decide)) hx hb hr hlocks hQ h d_bl_isEarlier_48
  · have h := mo_f hc h
    refine lv_aload_n (pc := 15) hx hb d_bl_isEarlier_15 rfl (lv_at hl 0 rfl) ?_
    refine gf_bl_27 (pc := 16) hx hb hw hN hown hK hP 0 rfl rfl d_bl_isEarlier_16 ?_
    refine lv_iload_n (pc := 19) hx hb d_bl_isEarlier_19 rfl (lv_at hl 1 rfl) ?_
    obtain ⟨v20, hi20, e20, h⟩ := mo_rI_e h
    refine mo_iald (pc := 20) hx hb hK hP 1 0 rfl rfl hi20 e20 d_bl_isEarlier_20 ?_
    refine lv_aload_n (pc := 21) hx hb d_bl_isEarlier_21 rfl (lv_at hl 0 rfl) ?_
    refine gf_bl_27 (pc := 22) hx hb hw hN hown hK hP 0 rfl rfl d_bl_isEarlier_22 ?_
    refine lv_iload_n (pc := 25) hx hb d_bl_isEarlier_25 rfl (lv_at hl 2 rfl) ?_
    obtain ⟨v26, hi26, e26, h⟩ := mo_rI_e h
    refine mo_iald (pc := 26) hx hb hK hP 1 0 rfl rfl hi26 e26 d_bl_isEarlier_26 ?_
    refine lv_icmp_ge (pc := 27) (tgt := 34) hx hb d_bl_isEarlier_27 rfl (fun hc => ?_) (fun hc => ?_)
    · have h := mo_t hc h
      refine lv_iconst (pc := 34) (v := 0) hx hb d_bl_isEarlier_34 (by decide) ?_
      refine lv_goto (pc := 35) (tgt := 48) hx hb d_bl_isEarlier_35 rfl ?_
      exact mo_retZr (mo_nz (by decide)) hx hb hr hlocks hQ h d_bl_isEarlier_48
    · have h := mo_f hc h
      refine lv_iconst (pc := 30) (v := 1) hx hb d_bl_isEarlier_30 (by decide) ?_
      refine lv_goto (pc := 31) (tgt := 48) hx hb d_bl_isEarlier_31 rfl ?_
      exact mo_retZr (mo_nz (by decide)) hx hb hr hlocks hQ h d_bl_isEarlier_48
set_option maxRecDepth 100000 in
set_option maxHeartbeats 4000000 in
theorem c_dg_isHeavier (l : Launch) (D : va_G) (cI cL cZ : ClassId) (a_this : Nat) (a_scores : Nat) (a_blocks : Nat) (a_blocks_hashes : Nat) (a_past : Nat) (a_future : Nat) (a_blues : Nat) (a_selected : Nat) (a_sequence : Nat) (a_sorted : Nat) (a_blocks_parentCounts : Nat) (a_blocks_parents : Nat) (a_blocks_includedCounts : Nat) (a_blocks_included : Nat) (a_blocks_locks : Nat) (v_k : Int32) (v_members : Int64) (v_tips : Int64) (v_blocks_made : Int32) (f_scores : Nat → Int32) (f_blocks_hashes : Nat → Int32) (x1 : Int32) (x2 : Int32) (o : Int32) (h : m_dg_isHeavier f_scores f_blocks_hashes x1 x2 = some o) : Met l y_dg_isHeavier (Cond.code y_dg_isHeavier b_dg_isHeavier 3 (some .boolean) :: WG) rm_dg_isHeavier (va_Pc [.ref a_this, .int x1, .int x2] (mo_Pr D [(cI, .int), (cL, .long), (cZ, .boolean)] [(a_this, .inr (3, [.ref a_blocks, .int v_k, .long v_members, .long v_tips, .ref a_past, .ref a_future, .ref a_blues, .ref a_scores, .ref a_selected, .ref a_sequence, .ref a_sorted])), (a_scores, .inl (cI, 61, .inl f_scores)), (a_blocks, .inr (2, [.int v_blocks_made, .ref a_blocks_parentCounts, .ref a_blocks_parents, .ref a_blocks_includedCounts, .ref a_blocks_included, .ref a_blocks_locks, .ref a_blocks_hashes])), (a_blocks_hashes, .inl (cI, 60, .inl f_blocks_hashes))])) (mo_Qr (some (.int o))) 0 0 (fun _ => False) := by
  refine mo_start (by decide) (Nat.le_of_ble_eq_true rfl) ?_
  intro p e s m args below meth c hx hb hr hlocks hml hown hw hv ls hl Q hQ
  obtain ⟨hP, hK, hN⟩ := hv
  have hl : lv_has ls 3 [(0, .ref a_this), (1, .int x1), (2, .int x2)] := hl
  unfold m_dg_isHeavier at h
  refine lv_aload_n (pc := 0) hx hb d_dg_isHeavier_0 rfl (lv_at hl 0 rfl) ?_
  refine gf_dg_21 (pc := 1) hx hb hw hN hown hK hP 0 rfl rfl d_dg_isHeavier_1 ?_
  refine lv_iload_n (pc := 4) hx hb d_dg_isHeavier_4 rfl (lv_at hl 1 rfl) ?_
  obtain ⟨v5, hi5, e5, h⟩ := mo_rI_e h
  refine mo_iald (pc := 5) hx hb hK hP 1 0 rfl rfl hi5 e5 d_dg_isHeavier_5 ?_
  refine lv_aload_n (pc := 6) hx hb d_dg_isHeavier_6 rfl (lv_at hl 0 rfl) ?_
  refine gf_dg_21 (pc := 7) hx hb hw hN hown hK hP 0 rfl rfl d_dg_isHeavier_7 ?_
  refine lv_iload_n (pc := 10) hx hb d_dg_isHeavier_10 rfl (lv_at hl 2 rfl) ?_
  obtain ⟨v11, hi11, e11, h⟩ := mo_rI_e h
  refine mo_iald (pc := 11) hx hb hK hP 1 0 rfl rfl hi11 e11 d_dg_isHeavier_11 ?_
  refine lv_icmp_eq (pc := 12) (tgt := 38) hx hb d_dg_isHeavier_12 rfl (fun hc => ?_) (fun hc => ?_)
  · have h := mo_t hc h
    refine lv_aload_n (pc := 38) hx hb d_dg_isHeavier_38 rfl (lv_at hl 0 rfl) ?_
    refine gf_dg_34 (pc := 39) hx hb hw hN hown hK hP 0 rfl rfl d_dg_isHeavier_39 ?_
    refine lv_iload_n (pc := 42) hx hb d_dg_isHeavier_42 rfl (lv_at hl 1 rfl) ?_
    refine lv_iload_n (pc := 43) hx hb d_dg_isHeavier_43 rfl (lv_at hl 2 rfl) ?_
    obtain ⟨r44, hr44, h⟩ := mo_bd_e h
    refine mo_rV (pc := 44) (As := [.int x1, .int x2]) (rest := []) (st1 := [.int r44]) ⟨hx, hb, hml, hown, hw⟩ (c_bl_isEarlier l D cI cL cZ a_blocks a_blocks_hashes a_blocks_parentCounts a_blocks_parents a_blocks_includedCounts a_blocks_included a_blocks_locks v_blocks_made f_blocks_hashes x1 x2 r44 hr44) (kV_dg_114 hw ⟨by decide, by decide⟩) (hP.sub [2, 3] rfl) hK hN rfl rfl rfl hl.1 rfl rfl d_dg_isHeavier_44 rfl ?_
    obtain ⟨hz, h⟩ := mo_bz_e h
    exact mo_retZr (mo_nz hz) hx hb hr hlocks hQ h d_dg_isHeavier_47
  · have h := mo_f hc h
    refine lv_aload_n (pc := 15) hx hb d_dg_isHeavier_15 rfl (lv_at hl 0 rfl) ?_
    refine gf_dg_21 (pc := 16) hx hb hw hN hown hK hP 0 rfl rfl d_dg_isHeavier_16 ?_
    refine lv_iload_n (pc := 19) hx hb d_dg_isHeavier_19 rfl (lv_at hl 1 rfl) ?_
    obtain ⟨v20, hi20, e20, h⟩ := mo_rI_e h
    refine mo_iald (pc := 20) hx hb hK hP 1 0 rfl rfl hi20 e20 d_dg_isHeavier_20 ?_
    refine lv_aload_n (pc := 21) hx hb d_dg_isHeavier_21 rfl (lv_at hl 0 rfl) ?_
    refine gf_dg_21 (pc := 22) hx hb hw hN hown hK hP 0 rfl rfl d_dg_isHeavier_22 ?_
    refine lv_iload_n (pc := 25) hx hb d_dg_isHeavier_25 rfl (lv_at hl 2 rfl) ?_
    obtain ⟨v26, hi26, e26, h⟩ := mo_rI_e h
    refine mo_iald (pc := 26) hx hb hK hP 1 0 rfl rfl hi26 e26 d_dg_isHeavier_26 ?_
    refine lv_icmp_le (pc := 27) (tgt := 34) hx hb d_dg_isHeavier_27 rfl (fun hc => ?_) (fun hc => ?_)
    · have h := mo_t hc h
      refine lv_iconst (pc := 34) (v := 0) hx hb d_dg_isHeavier_34 (by decide) ?_
      refine lv_goto (pc := 35) (tgt := 47) hx hb d_dg_isHeavier_35 rfl ?_
      exact mo_retZr (mo_nz (by decide)) hx hb hr hlocks hQ h d_dg_isHeavier_47
    · have h := mo_f hc h
      refine lv_iconst (pc := 30) (v := 1) hx hb d_dg_isHeavier_30 (by decide) ?_
      refine lv_goto (pc := 31) (tgt := 47) hx hb d_dg_isHeavier_31 rfl ?_
      exact mo_retZr (mo_nz (by decide)) hx hb hr hlocks hQ h d_dg_isHeavier_47
set_option maxRecDepth 100000 in
set_option maxHeartbeats 4000000 in
theorem c_dg_heaviest (l : Launch) (D : va_G) (cI cL cZ : ClassId) (a_this : Nat) (a_blocks : Nat) (a_scores : Nat) (a_blocks_hashes : Nat) (a_past : Nat) (a_future : Nat) (a_blues : Nat) (a_selected : Nat) (a_sequence : Nat) (a_sorted : Nat) (a_blocks_parentCounts : Nat) (a_blocks_parents : Nat) (a_blocks_includedCounts : Nat) (a_blocks_included : Nat) (a_blocks_locks : Nat) (v_k : Int32) (v_members : Int64) (v_tips : Int64) (v_blocks_made : Int32) (f_scores : Nat → Int32) (f_blocks_hashes : Nat → Int32) (x1 : Int64) (o : Int32) (h : m_dg_heaviest v_blocks_made f_scores f_blocks_hashes x1 = some o) : Met l y_dg_heaviest (Cond.code y_dg_heaviest b_dg_heaviest 5 (some .int) :: WG) rm_dg_heaviest (va_Pc [.ref a_this, .long x1] (mo_Pr D [(cI, .int), (cL, .long), (cZ, .boolean)] [(a_this, .inr (3, [.ref a_blocks, .int v_k, .long v_members, .long v_tips, .ref a_past, .ref a_future, .ref a_blues, .ref a_scores, .ref a_selected, .ref a_sequence, .ref a_sorted])), (a_blocks, .inr (2, [.int v_blocks_made, .ref a_blocks_parentCounts, .ref a_blocks_parents, .ref a_blocks_includedCounts, .ref a_blocks_included, .ref a_blocks_locks, .ref a_blocks_hashes])), (a_scores, .inl (cI, 61, .inl f_scores)), (a_blocks_hashes, .inl (cI, 60, .inl f_blocks_hashes))])) (mo_Qr (some (.int o))) 0 0 (fun _ => False) := by
  refine mo_start (by decide) (Nat.le_of_ble_eq_true rfl) ?_
  intro p e s m args below meth c hx hb hr hlocks hml hown hw hv ls hl Q hQ
  obtain ⟨hP, hK, hN⟩ := hv
  have hl : lv_has ls 5 [(0, .ref a_this), (1, .long x1)] := hl
  unfold m_dg_heaviest at h
  refine lv_iconst (pc := 0) (v := (-1)) hx hb d_dg_heaviest_0 (by decide) ?_
  refine lv_istore_n (pc := 1) (lv' := [(3, .int ((-1))), (0, .ref a_this), (1, .long x1)]) hx hb d_dg_heaviest_1 rfl hl (by decide) rfl (fun ls hl => ?_)
  refine lv_iconst (pc := 2) (v := 0) hx hb d_dg_heaviest_2 (by decide) ?_
  refine lv_istore (pc := 3) (lv' := [(4, .int 0), (3, .int ((-1))), (0, .ref a_this), (1, .long x1)]) hx hb d_dg_heaviest_3 hl (by decide) rfl (fun ls hl => ?_)
  obtain ⟨w5, K5, eK5, hy5, hr5⟩ := mo_bd_k h
  have E5 : ∀ (y5_3 : Int32) (ls : Array Slot) (hl : lv_has ls 5 [(3, .int y5_3)]) (h : K5 y5_3 = some o), W p l e rm_dg_heaviest s m args below meth c s.heap [] 0 0 Q (F0 m 50 ls []) := by
    intro y5_3 ls hl h
    have h := mo_a1 eK5 h
    try dsimp only at h
    refine lv_iload_n (pc := 50) hx hb d_dg_heaviest_50 rfl (lv_at hl 0 rfl) ?_
    exact mo_retIr hx hb hr hlocks hQ h d_dg_heaviest_51
  exact mo_lp_i (step := (m_dg_heaviest_L5 v_blocks_made f_scores f_blocks_hashes x1)) (o := w5) (fun (x : Int32 × Int32) => match x with | (z5_3, z5_4) => ∀ (ls : Array Slot) (hl : lv_has ls 5 [(0, .ref a_this), (1, .long x1), (3, .int z5_3), (4, .int z5_4)]), W p l e rm_dg_heaviest s m args below meth c s.heap [] 0 0 Q (F0 m 5 ls [])) (by
      rintro bk5 hb5 ⟨z5_3, z5_4⟩ h ls hl
      unfold m_dg_heaviest_L5 at h
      try dsimp only at h
      refine lv_iload (pc := 5) hx hb d_dg_heaviest_5 (lv_at hl 3 rfl) ?_
      refine lv_aload_n (pc := 7) hx hb d_dg_heaviest_7 rfl (lv_at hl 0 rfl) ?_
      refine gf_dg_34 (pc := 8) hx hb hw hN hown hK hP 0 rfl rfl d_dg_heaviest_8 ?_
      refine gf_dg_72 (pc := 11) hx hb hw hN hown hK hP 1 rfl rfl d_dg_heaviest_11 ?_
      refine lv_icmp_ge (pc := 14) (tgt := 50) hx hb d_dg_heaviest_14 rfl (fun hc => ?_) (fun hc => ?_)
      · have h := mo_t hc h
        exact E5 z5_3 _ (lv_sub hl [2] rfl) (by rw [Option.some.inj h]; exact hr5)
      · have h := mo_f hc h
        refine lv_lload_n (pc := 17) hx hb d_dg_heaviest_17 rfl (lv_at hl 1 rfl) ?_
        refine lv_iload (pc := 18) hx hb d_dg_heaviest_18 (lv_at hl 3 rfl) ?_
        obtain ⟨r20, hr20, h⟩ := mo_bd_e h
        refine mo_rSN (pc := 20) (As := [.long x1, .int z5_4]) (rest := []) (st1 := [.int r20]) ⟨hx, hb, hml, hown, hw⟩ (c_bm_holds l D cI cL cZ x1 z5_4 r20 hr20) (kSN_dg_52 hw hN ⟨by decide, by decide⟩) mo_P0 hK hN rfl hl.1 rfl rfl d_dg_heaviest_20 rfl ?_
        obtain ⟨j44, ej44, h⟩ := mo_jn_e h
        have B44 : ∀ (y44_3 : Int32) (ls : Array Slot) (hl : lv_has ls 5 [(0, .ref a_this), (1, .long x1), (3, .int y44_3), (4, .int z5_4)]) (h : j44 y44_3 = some w5), W p l e rm_dg_heaviest s m args below meth c s.heap [] 0 0 Q (F0 m 44 ls []) := by
          intro y44_3 ls hl h
          have h := mo_a1 ej44 h
          refine lv_iinc (pc := 44) (k := 3) (v := z5_4 + 1) (lv' := [(4, .int (z5_4 + 1)), (0, .ref a_this), (1, .long x1), (3, .int y44_3)]) hx hb d_dg_heaviest_44 hl rfl (mo_inc1 _) (by decide) rfl (fun ls hl => ?_)
          refine lv_goto (pc := 47) (tgt := 5) hx hb d_dg_heaviest_47 rfl ?_
          exact hb5 (y44_3, z5_4 + 1) h _ (lv_sub hl [1, 2, 3, 0] rfl)
        refine lv_if_eq (pc := 23) (tgt := 44) hx hb d_dg_heaviest_23 rfl (fun hc => ?_) (fun hc => ?_)
        · have h := mo_t hc h
          exact B44 z5_3 _ (lv_sub hl [0, 1, 2, 3] rfl) h
        · have h := mo_f hc h
          refine lv_iload_n (pc := 26) hx hb d_dg_heaviest_26 rfl (lv_at hl 2 rfl) ?_
          refine lv_iconst (pc := 27) (v := (-1)) hx hb d_dg_heaviest_27 (by decide) ?_
          obtain ⟨j41, ej41, h⟩ := mo_jn_e h
          have B41 : ∀ (ls : Array Slot) (hl : lv_has ls 5 [(0, .ref a_this), (1, .long x1), (4, .int z5_4)]) (h : j41 = some w5), W p l e rm_dg_heaviest s m args below meth c s.heap [] 0 0 Q (F0 m 41 ls []) := by
            intro ls hl h
            have h := mo_a0 ej41 h
            refine lv_iload (pc := 41) hx hb d_dg_heaviest_41 (lv_at hl 2 rfl) ?_
            refine lv_istore_n (pc := 43) (lv' := [(3, .int z5_4), (0, .ref a_this), (1, .long x1), (4, .int z5_4)]) hx hb d_dg_heaviest_43 rfl hl (by decide) rfl (fun ls hl => ?_)
            exact B44 z5_4 _ (lv_sub hl [1, 2, 0, 3] rfl) h
          refine lv_icmp_eq (pc := 28) (tgt := 41) hx hb d_dg_heaviest_28 rfl (fun hc => ?_) (fun hc => ?_)
          · have h := mo_t hc h
            exact B41 _ (lv_sub hl [0, 1, 3] rfl) h
          · have h := mo_f hc h
            refine lv_aload_n (pc := 31) hx hb d_dg_heaviest_31 rfl (lv_at hl 0 rfl) ?_
            refine lv_iload (pc := 32) hx hb d_dg_heaviest_32 (lv_at hl 3 rfl) ?_
            refine lv_iload_n (pc := 34) hx hb d_dg_heaviest_34 rfl (lv_at hl 2 rfl) ?_
            obtain ⟨r35, hr35, h⟩ := mo_bd_e h
            refine mo_rV (pc := 35) (As := [.int z5_4, .int z5_3]) (rest := []) (st1 := [.int r35]) ⟨hx, hb, hml, hown, hw⟩ (c_dg_isHeavier l D cI cL cZ a_this a_scores a_blocks a_blocks_hashes a_past a_future a_blues a_selected a_sequence a_sorted a_blocks_parentCounts a_blocks_parents a_blocks_includedCounts a_blocks_included a_blocks_locks v_k v_members v_tips v_blocks_made f_scores f_blocks_hashes z5_4 z5_3 r35 hr35) (kV_dg_75 hw ⟨by decide, by decide⟩) (hP.sub [0, 2, 1, 3] rfl) hK hN rfl rfl rfl hl.1 rfl rfl d_dg_heaviest_35 rfl ?_
            refine lv_if_eq (pc := 38) (tgt := 44) hx hb d_dg_heaviest_38 rfl (fun hc => ?_) (fun hc => ?_)
            · have h := mo_t hc h
              exact B44 z5_3 _ (lv_sub hl [0, 1, 2, 3] rfl) h
            · have h := mo_f hc h
              exact B41 _ (lv_sub hl [0, 1, 3] rfl) h
    ) _ _ hy5 _ (lv_sub hl [2, 3, 1, 0] rfl)
set_option maxRecDepth 100000 in
set_option maxHeartbeats 4000000 in
theorem c_dg_pastOf (l : Launch) (D : va_G) (cI cL cZ : ClassId) (a_this : Nat) (a_blocks : Nat) (a_past : Nat) (a_future : Nat) (a_blues : Nat) (a_scores : Nat) (a_selected : Nat) (a_sequence : Nat) (a_sorted : Nat) (a_blocks_parentCounts : Nat) (a_blocks_parents : Nat) (a_blocks_includedCounts : Nat) (a_blocks_included : Nat) (a_blocks_locks : Nat) (a_blocks_hashes : Nat) (v_k : Int32) (v_members : Int64) (v_tips : Int64) (v_blocks_made : Int32) (f_past : Nat → Int64) (x1 : Int64) (o : Int64) (h : m_dg_pastOf v_blocks_made f_past x1 = some o) : Met l y_dg_pastOf (Cond.code y_dg_pastOf b_dg_pastOf 6 (some .long) :: WG) rm_dg_pastOf (va_Pc [.ref a_this, .long x1] (mo_Pr D [(cI, .int), (cL, .long), (cZ, .boolean)] [(a_this, .inr (3, [.ref a_blocks, .int v_k, .long v_members, .long v_tips, .ref a_past, .ref a_future, .ref a_blues, .ref a_scores, .ref a_selected, .ref a_sequence, .ref a_sorted])), (a_blocks, .inr (2, [.int v_blocks_made, .ref a_blocks_parentCounts, .ref a_blocks_parents, .ref a_blocks_includedCounts, .ref a_blocks_included, .ref a_blocks_locks, .ref a_blocks_hashes])), (a_past, .inl (cL, 61, .inr (.inl f_past)))])) (mo_Qr (some (.long o))) 0 0 (fun _ => False) := by
  refine mo_start (by decide) (Nat.le_of_ble_eq_true rfl) ?_
  intro p e s m args below meth c hx hb hr hlocks hml hown hw hv ls hl Q hQ
  obtain ⟨hP, hK, hN⟩ := hv
  have hl : lv_has ls 6 [(0, .ref a_this), (1, .long x1)] := hl
  unfold m_dg_pastOf at h
  refine lv_lconst (pc := 0) (v := 0) hx hb d_dg_pastOf_0 (by decide) ?_
  refine lv_lstore_n (pc := 1) (lv' := [(3, .long 0), (0, .ref a_this), (1, .long x1)]) hx hb d_dg_pastOf_1 rfl hl (by decide) rfl (fun ls hl => ?_)
  refine lv_iconst (pc := 2) (v := 0) hx hb d_dg_pastOf_2 (by decide) ?_
  refine lv_istore (pc := 3) (lv' := [(5, .int 0), (3, .long 0), (0, .ref a_this), (1, .long x1)]) hx hb d_dg_pastOf_3 hl (by decide) rfl (fun ls hl => ?_)
  obtain ⟨w5, K5, eK5, hy5, hr5⟩ := mo_bd_k h
  have E5 : ∀ (y5_3 : Int64) (ls : Array Slot) (hl : lv_has ls 6 [(3, .long y5_3)]) (h : K5 y5_3 = some o), W p l e rm_dg_pastOf s m args below meth c s.heap [] 0 0 Q (F0 m 42 ls []) := by
    intro y5_3 ls hl h
    have h := mo_a1 eK5 h
    try dsimp only at h
    refine lv_lload_n (pc := 42) hx hb d_dg_pastOf_42 rfl (lv_at hl 0 rfl) ?_
    exact mo_retLr hx hb hr hlocks hQ h d_dg_pastOf_43
  exact mo_lp_i (step := (m_dg_pastOf_L5 v_blocks_made f_past x1)) (o := w5) (fun (x : Int64 × Int32) => match x with | (z5_3, z5_5) => ∀ (ls : Array Slot) (hl : lv_has ls 6 [(0, .ref a_this), (1, .long x1), (3, .long z5_3), (5, .int z5_5)]), W p l e rm_dg_pastOf s m args below meth c s.heap [] 0 0 Q (F0 m 5 ls [])) (by
      rintro bk5 hb5 ⟨z5_3, z5_5⟩ h ls hl
      unfold m_dg_pastOf_L5 at h
      try dsimp only at h
      refine lv_iload (pc := 5) hx hb d_dg_pastOf_5 (lv_at hl 3 rfl) ?_
      refine lv_aload_n (pc := 7) hx hb d_dg_pastOf_7 rfl (lv_at hl 0 rfl) ?_
      refine gf_dg_34 (pc := 8) hx hb hw hN hown hK hP 0 rfl rfl d_dg_pastOf_8 ?_
      refine gf_dg_72 (pc := 11) hx hb hw hN hown hK hP 1 rfl rfl d_dg_pastOf_11 ?_
      refine lv_icmp_ge (pc := 14) (tgt := 42) hx hb d_dg_pastOf_14 rfl (fun hc => ?_) (fun hc => ?_)
      · have h := mo_t hc h
        exact E5 z5_3 _ (lv_sub hl [2] rfl) (by rw [Option.some.inj h]; exact hr5)
      · have h := mo_f hc h
        refine lv_lload_n (pc := 17) hx hb d_dg_pastOf_17 rfl (lv_at hl 1 rfl) ?_
        refine lv_iload (pc := 18) hx hb d_dg_pastOf_18 (lv_at hl 3 rfl) ?_
        obtain ⟨r20, hr20, h⟩ := mo_bd_e h
        refine mo_rSN (pc := 20) (As := [.long x1, .int z5_5]) (rest := []) (st1 := [.int r20]) ⟨hx, hb, hml, hown, hw⟩ (c_bm_holds l D cI cL cZ x1 z5_5 r20 hr20) (kSN_dg_52 hw hN ⟨by decide, by decide⟩) mo_P0 hK hN rfl hl.1 rfl rfl d_dg_pastOf_20 rfl ?_
        obtain ⟨j36, ej36, h⟩ := mo_jn_e h
        have B36 : ∀ (y36_3 : Int64) (ls : Array Slot) (hl : lv_has ls 6 [(0, .ref a_this), (1, .long x1), (3, .long y36_3), (5, .int z5_5)]) (h : j36 y36_3 = some w5), W p l e rm_dg_pastOf s m args below meth c s.heap [] 0 0 Q (F0 m 36 ls []) := by
          intro y36_3 ls hl h
          have h := mo_a1 ej36 h
          refine lv_iinc (pc := 36) (k := 3) (v := z5_5 + 1) (lv' := [(5, .int (z5_5 + 1)), (0, .ref a_this), (1, .long x1), (3, .long y36_3)]) hx hb d_dg_pastOf_36 hl rfl (mo_inc1 _) (by decide) rfl (fun ls hl => ?_)
          refine lv_goto (pc := 39) (tgt := 5) hx hb d_dg_pastOf_39 rfl ?_
          exact hb5 (y36_3, z5_5 + 1) h _ (lv_sub hl [1, 2, 3, 0] rfl)
        refine lv_if_eq (pc := 23) (tgt := 36) hx hb d_dg_pastOf_23 rfl (fun hc => ?_) (fun hc => ?_)
        · have h := mo_t hc h
          exact B36 z5_3 _ (lv_sub hl [0, 1, 2, 3] rfl) h
        · have h := mo_f hc h
          refine lv_lload_n (pc := 26) hx hb d_dg_pastOf_26 rfl (lv_at hl 2 rfl) ?_
          refine lv_aload_n (pc := 27) hx hb d_dg_pastOf_27 rfl (lv_at hl 0 rfl) ?_
          refine gf_dg_9 (pc := 28) hx hb hw hN hown hK hP 0 rfl rfl d_dg_pastOf_28 ?_
          refine lv_iload (pc := 31) hx hb d_dg_pastOf_31 (lv_at hl 3 rfl) ?_
          obtain ⟨v33, hi33, e33, h⟩ := mo_rL_e h
          refine mo_lald (pc := 33) hx hb hK hP 2 1 rfl rfl hi33 e33 d_dg_pastOf_33 ?_
          refine lv_lor (pc := 34) hx hb d_dg_pastOf_34 ?_
          refine lv_lstore_n (pc := 35) (lv' := [(3, .long (z5_3 ||| v33)), (0, .ref a_this), (1, .long x1), (5, .int z5_5)]) hx hb d_dg_pastOf_35 rfl hl (by decide) rfl (fun ls hl => ?_)
          exact B36 (z5_3 ||| v33) _ (lv_sub hl [1, 2, 0, 3] rfl) h
    ) _ _ hy5 _ (lv_sub hl [2, 3, 1, 0] rfl)
set_option maxRecDepth 100000 in
set_option maxHeartbeats 4000000 in
theorem c_dg_mergedBy (l : Launch) (D : va_G) (cI cL cZ : ClassId) (a_this : Nat) (a_selected : Nat) (a_past : Nat) (a_blocks : Nat) (a_future : Nat) (a_blues : Nat) (a_scores : Nat) (a_sequence : Nat) (a_sorted : Nat) (v_k : Int32) (v_members : Int64) (v_tips : Int64) (f_selected : Nat → Int32) (f_past : Nat → Int64) (x1 : Int32) (o : Int64) (h : m_dg_mergedBy f_selected f_past x1 = some o) : Met l y_dg_mergedBy (Cond.code y_dg_mergedBy b_dg_mergedBy 3 (some .long) :: WG) rm_dg_mergedBy (va_Pc [.ref a_this, .int x1] (mo_Pr D [(cI, .int), (cL, .long), (cZ, .boolean)] [(a_this, .inr (3, [.ref a_blocks, .int v_k, .long v_members, .long v_tips, .ref a_past, .ref a_future, .ref a_blues, .ref a_scores, .ref a_selected, .ref a_sequence, .ref a_sorted])), (a_selected, .inl (cI, 61, .inl f_selected)), (a_past, .inl (cL, 61, .inr (.inl f_past)))])) (mo_Qr (some (.long o))) 0 0 (fun _ => False) := by
  refine mo_start (by decide) (Nat.le_of_ble_eq_true rfl) ?_
  intro p e s m args below meth c hx hb hr hlocks hml hown hw hv ls hl Q hQ
  obtain ⟨hP, hK, hN⟩ := hv
  have hl : lv_has ls 3 [(0, .ref a_this), (1, .int x1)] := hl
  unfold m_dg_mergedBy at h
  refine lv_aload_n (pc := 0) hx hb d_dg_mergedBy_0 rfl (lv_at hl 0 rfl) ?_
  refine gf_dg_25 (pc := 1) hx hb hw hN hown hK hP 0 rfl rfl d_dg_mergedBy_1 ?_
  refine lv_iload_n (pc := 4) hx hb d_dg_mergedBy_4 rfl (lv_at hl 1 rfl) ?_
  obtain ⟨v5, hi5, e5, h⟩ := mo_rI_e h
  refine mo_iald (pc := 5) hx hb hK hP 1 0 rfl rfl hi5 e5 d_dg_mergedBy_5 ?_
  refine lv_istore_n (pc := 6) (lv' := [(2, .int v5), (0, .ref a_this), (1, .int x1)]) hx hb d_dg_mergedBy_6 rfl hl (by decide) rfl (fun ls hl => ?_)
  refine lv_iload_n (pc := 7) hx hb d_dg_mergedBy_7 rfl (lv_at hl 0 rfl) ?_
  refine lv_iconst (pc := 8) (v := (-1)) hx hb d_dg_mergedBy_8 (by decide) ?_
  refine lv_icmp_ne (pc := 9) (tgt := 16) hx hb d_dg_mergedBy_9 rfl (fun hc => ?_) (fun hc => ?_)
  · have h := mo_f hc h
    refine lv_aload_n (pc := 16) hx hb d_dg_mergedBy_16 rfl (lv_at hl 1 rfl) ?_
    refine gf_dg_9 (pc := 17) hx hb hw hN hown hK hP 0 rfl rfl d_dg_mergedBy_17 ?_
    refine lv_iload_n (pc := 20) hx hb d_dg_mergedBy_20 rfl (lv_at hl 2 rfl) ?_
    obtain ⟨v21, hi21, e21, h⟩ := mo_rL_e h
    refine mo_lald (pc := 21) hx hb hK hP 2 1 rfl rfl hi21 e21 d_dg_mergedBy_21 ?_
    refine lv_aload_n (pc := 22) hx hb d_dg_mergedBy_22 rfl (lv_at hl 1 rfl) ?_
    refine gf_dg_9 (pc := 23) hx hb hw hN hown hK hP 0 rfl rfl d_dg_mergedBy_23 ?_
    refine lv_iload_n (pc := 26) hx hb d_dg_mergedBy_26 rfl (lv_at hl 0 rfl) ?_
    obtain ⟨v27, hi27, e27, h⟩ := mo_rL_e h
    refine mo_lald (pc := 27) hx hb hK hP 2 1 rfl rfl hi27 e27 d_dg_mergedBy_27 ?_
    refine lv_ldc2 (pc := 28) (v := (-1)) hx hb hown (hw _ wd_2_17) d_dg_mergedBy_28 ?_
    refine lv_lxor (pc := 31) hx hb d_dg_mergedBy_31 ?_
    refine lv_land (pc := 32) hx hb d_dg_mergedBy_32 ?_
    refine lv_iload_n (pc := 33) hx hb d_dg_mergedBy_33 rfl (lv_at hl 0 rfl) ?_
    obtain ⟨r34, hr34, h⟩ := mo_bd_e h
    refine mo_rSN (pc := 34) (As := [.int v5]) (rest := [.long (v21 &&& (v27 ^^^ ((-1))))]) (st1 := [.long r34, .long (v21 &&& (v27 ^^^ ((-1))))]) ⟨hx, hb, hml, hown, hw⟩ (c_bm_bit l D cI cL cZ v5 r34 hr34) (kSN_dg_79 hw hN ⟨by decide, by decide⟩) mo_P0 hK hN rfl hl.1 rfl rfl d_dg_mergedBy_34 rfl ?_
    refine lv_ldc2 (pc := 37) (v := (-1)) hx hb hown (hw _ wd_2_17) d_dg_mergedBy_37 ?_
    refine lv_lxor (pc := 40) hx hb d_dg_mergedBy_40 ?_
    refine lv_land (pc := 41) hx hb d_dg_mergedBy_41 ?_
    exact mo_retLr hx hb hr hlocks hQ h d_dg_mergedBy_42
  · have h := mo_t hc h
    refine lv_lconst (pc := 12) (v := 0) hx hb d_dg_mergedBy_12 (by decide) ?_
    refine lv_goto (pc := 13) (tgt := 42) hx hb d_dg_mergedBy_13 rfl ?_
    exact mo_retLr hx hb hr hlocks hQ h d_dg_mergedBy_42
set_option maxRecDepth 100000 in
set_option maxHeartbeats 4000000 in
theorem c_dg_isBefore (l : Launch) (D : va_G) (cI cL cZ : ClassId) (a_this : Nat) (a_scores : Nat) (a_blocks : Nat) (a_blocks_hashes : Nat) (a_past : Nat) (a_future : Nat) (a_blues : Nat) (a_selected : Nat) (a_sequence : Nat) (a_sorted : Nat) (a_blocks_parentCounts : Nat) (a_blocks_parents : Nat) (a_blocks_includedCounts : Nat) (a_blocks_included : Nat) (a_blocks_locks : Nat) (v_k : Int32) (v_members : Int64) (v_tips : Int64) (v_blocks_made : Int32) (f_scores : Nat → Int32) (f_blocks_hashes : Nat → Int32) (x1 : Int32) (x2 : Int32) (o : Int32) (h : m_dg_isBefore f_scores f_blocks_hashes x1 x2 = some o) : Met l y_dg_isBefore (Cond.code y_dg_isBefore b_dg_isBefore 3 (some .boolean) :: WG) rm_dg_isBefore (va_Pc [.ref a_this, .int x1, .int x2] (mo_Pr D [(cI, .int), (cL, .long), (cZ, .boolean)] [(a_this, .inr (3, [.ref a_blocks, .int v_k, .long v_members, .long v_tips, .ref a_past, .ref a_future, .ref a_blues, .ref a_scores, .ref a_selected, .ref a_sequence, .ref a_sorted])), (a_scores, .inl (cI, 61, .inl f_scores)), (a_blocks, .inr (2, [.int v_blocks_made, .ref a_blocks_parentCounts, .ref a_blocks_parents, .ref a_blocks_includedCounts, .ref a_blocks_included, .ref a_blocks_locks, .ref a_blocks_hashes])), (a_blocks_hashes, .inl (cI, 60, .inl f_blocks_hashes))])) (mo_Qr (some (.int o))) 0 0 (fun _ => False) := by
  refine mo_start (by decide) (Nat.le_of_ble_eq_true rfl) ?_
  intro p e s m args below meth c hx hb hr hlocks hml hown hw hv ls hl Q hQ
  obtain ⟨hP, hK, hN⟩ := hv
  have hl : lv_has ls 3 [(0, .ref a_this), (1, .int x1), (2, .int x2)] := hl
  unfold m_dg_isBefore at h
  refine lv_aload_n (pc := 0) hx hb d_dg_isBefore_0 rfl (lv_at hl 0 rfl) ?_
  refine gf_dg_21 (pc := 1) hx hb hw hN hown hK hP 0 rfl rfl d_dg_isBefore_1 ?_
  refine lv_iload_n (pc := 4) hx hb d_dg_isBefore_4 rfl (lv_at hl 1 rfl) ?_
  obtain ⟨v5, hi5, e5, h⟩ := mo_rI_e h
  refine mo_iald (pc := 5) hx hb hK hP 1 0 rfl rfl hi5 e5 d_dg_isBefore_5 ?_
  refine lv_aload_n (pc := 6) hx hb d_dg_isBefore_6 rfl (lv_at hl 0 rfl) ?_
  refine gf_dg_21 (pc := 7) hx hb hw hN hown hK hP 0 rfl rfl d_dg_isBefore_7 ?_
  refine lv_iload_n (pc := 10) hx hb d_dg_isBefore_10 rfl (lv_at hl 2 rfl) ?_
  obtain ⟨v11, hi11, e11, h⟩ := mo_rI_e h
  refine mo_iald (pc := 11) hx hb hK hP 1 0 rfl rfl hi11 e11 d_dg_isBefore_11 ?_
  refine lv_icmp_eq (pc := 12) (tgt := 38) hx hb d_dg_isBefore_12 rfl (fun hc => ?_) (fun hc => ?_)
  · have h := mo_t hc h
    refine lv_aload_n (pc := 38) hx hb d_dg_isBefore_38 rfl (lv_at hl 0 rfl) ?_
    refine gf_dg_34 (pc := 39) hx hb hw hN hown hK hP 0 rfl rfl d_dg_isBefore_39 ?_
    refine lv_iload_n (pc := 42) hx hb d_dg_isBefore_42 rfl (lv_at hl 1 rfl) ?_
    refine lv_iload_n (pc := 43) hx hb d_dg_isBefore_43 rfl (lv_at hl 2 rfl) ?_
    obtain ⟨r44, hr44, h⟩ := mo_bd_e h
    refine mo_rV (pc := 44) (As := [.int x1, .int x2]) (rest := []) (st1 := [.int r44]) ⟨hx, hb, hml, hown, hw⟩ (c_bl_isEarlier l D cI cL cZ a_blocks a_blocks_hashes a_blocks_parentCounts a_blocks_parents a_blocks_includedCounts a_blocks_included a_blocks_locks v_blocks_made f_blocks_hashes x1 x2 r44 hr44) (kV_dg_114 hw ⟨by decide, by decide⟩) (hP.sub [2, 3] rfl) hK hN rfl rfl rfl hl.1 rfl rfl d_dg_isBefore_44 rfl ?_
    obtain ⟨hz, h⟩ := mo_bz_e h
    exact mo_retZr (mo_nz hz) hx hb hr hlocks hQ h d_dg_isBefore_47
  · have h := mo_f hc h
    refine lv_aload_n (pc := 15) hx hb d_dg_isBefore_15 rfl (lv_at hl 0 rfl) ?_
    refine gf_dg_21 (pc := 16) hx hb hw hN hown hK hP 0 rfl rfl d_dg_isBefore_16 ?_
    refine lv_iload_n (pc := 19) hx hb d_dg_isBefore_19 rfl (lv_at hl 1 rfl) ?_
    obtain ⟨v20, hi20, e20, h⟩ := mo_rI_e h
    refine mo_iald (pc := 20) hx hb hK hP 1 0 rfl rfl hi20 e20 d_dg_isBefore_20 ?_
    refine lv_aload_n (pc := 21) hx hb d_dg_isBefore_21 rfl (lv_at hl 0 rfl) ?_
    refine gf_dg_21 (pc := 22) hx hb hw hN hown hK hP 0 rfl rfl d_dg_isBefore_22 ?_
    refine lv_iload_n (pc := 25) hx hb d_dg_isBefore_25 rfl (lv_at hl 2 rfl) ?_
    obtain ⟨v26, hi26, e26, h⟩ := mo_rI_e h
    refine mo_iald (pc := 26) hx hb hK hP 1 0 rfl rfl hi26 e26 d_dg_isBefore_26 ?_
    refine lv_icmp_ge (pc := 27) (tgt := 34) hx hb d_dg_isBefore_27 rfl (fun hc => ?_) (fun hc => ?_)
    · have h := mo_t hc h
      refine lv_iconst (pc := 34) (v := 0) hx hb d_dg_isBefore_34 (by decide) ?_
      refine lv_goto (pc := 35) (tgt := 47) hx hb d_dg_isBefore_35 rfl ?_
      exact mo_retZr (mo_nz (by decide)) hx hb hr hlocks hQ h d_dg_isBefore_47
    · have h := mo_f hc h
      refine lv_iconst (pc := 30) (v := 1) hx hb d_dg_isBefore_30 (by decide) ?_
      refine lv_goto (pc := 31) (tgt := 47) hx hb d_dg_isBefore_31 rfl ?_
      exact mo_retZr (mo_nz (by decide)) hx hb hr hlocks hQ h d_dg_isBefore_47
set_option maxRecDepth 100000 in
set_option maxHeartbeats 4000000 in
theorem c_dg_sortByScore (l : Launch) (D : va_G) (cI cL cZ : ClassId) (a_this : Nat) (a_blocks : Nat) (a_sorted : Nat) (a_scores : Nat) (a_blocks_hashes : Nat) (a_past : Nat) (a_future : Nat) (a_blues : Nat) (a_selected : Nat) (a_sequence : Nat) (a_blocks_parentCounts : Nat) (a_blocks_parents : Nat) (a_blocks_includedCounts : Nat) (a_blocks_included : Nat) (a_blocks_locks : Nat) (v_k : Int32) (v_members : Int64) (v_tips : Int64) (v_blocks_made : Int32) (f_sorted : Nat → Int32) (f_scores : Nat → Int32) (f_blocks_hashes : Nat → Int32) (x1 : Int64) (o : Int32 × (Nat → Int32)) (h : m_dg_sortByScore v_blocks_made f_sorted f_scores f_blocks_hashes x1 = some o) : Met l y_dg_sortByScore (Cond.code y_dg_sortByScore b_dg_sortByScore 6 (some .int) :: WG) rm_dg_sortByScore (va_Pc [.ref a_this, .long x1] (mo_Pm D [(cI, .int), (cL, .long), (cZ, .boolean)] [(a_this, .inr (3, [.ref a_blocks, .int v_k, .long v_members, .long v_tips, .ref a_past, .ref a_future, .ref a_blues, .ref a_scores, .ref a_selected, .ref a_sequence, .ref a_sorted])), (a_blocks, .inr (2, [.int v_blocks_made, .ref a_blocks_parentCounts, .ref a_blocks_parents, .ref a_blocks_includedCounts, .ref a_blocks_included, .ref a_blocks_locks, .ref a_blocks_hashes])), (a_sorted, .inl (cI, 60, .inl f_sorted)), (a_scores, .inl (cI, 61, .inl f_scores)), (a_blocks_hashes, .inl (cI, 60, .inl f_blocks_hashes))])) (mo_Qm D [(a_this, .inr (3, [.ref a_blocks, .int v_k, .long v_members, .long v_tips, .ref a_past, .ref a_future, .ref a_blues, .ref a_scores, .ref a_selected, .ref a_sequence, .ref a_sorted])), (a_blocks, .inr (2, [.int v_blocks_made, .ref a_blocks_parentCounts, .ref a_blocks_parents, .ref a_blocks_includedCounts, .ref a_blocks_included, .ref a_blocks_locks, .ref a_blocks_hashes])), (a_sorted, .inl (cI, 60, .inl f_sorted)), (a_scores, .inl (cI, 61, .inl f_scores)), (a_blocks_hashes, .inl (cI, 60, .inl f_blocks_hashes))] (fun (o : Int32 × (Nat → Int32)) => [(a_this, .inr (3, [.ref a_blocks, .int v_k, .long v_members, .long v_tips, .ref a_past, .ref a_future, .ref a_blues, .ref a_scores, .ref a_selected, .ref a_sequence, .ref a_sorted])), (a_blocks, .inr (2, [.int v_blocks_made, .ref a_blocks_parentCounts, .ref a_blocks_parents, .ref a_blocks_includedCounts, .ref a_blocks_included, .ref a_blocks_locks, .ref a_blocks_hashes])), (a_sorted, .inl (cI, 60, .inl o.2)), (a_scores, .inl (cI, 61, .inl f_scores)), (a_blocks_hashes, .inl (cI, 60, .inl f_blocks_hashes))]) (fun (o : Int32 × (Nat → Int32)) => (some (.int o.1))) o) 0 0 (mo_A [(a_this, .inr (3, [.ref a_blocks, .int v_k, .long v_members, .long v_tips, .ref a_past, .ref a_future, .ref a_blues, .ref a_scores, .ref a_selected, .ref a_sequence, .ref a_sorted])), (a_blocks, .inr (2, [.int v_blocks_made, .ref a_blocks_parentCounts, .ref a_blocks_parents, .ref a_blocks_includedCounts, .ref a_blocks_included, .ref a_blocks_locks, .ref a_blocks_hashes])), (a_sorted, .inl (cI, 60, .inl f_sorted)), (a_scores, .inl (cI, 61, .inl f_scores)), (a_blocks_hashes, .inl (cI, 60, .inl f_blocks_hashes))]) := by
  refine mo_start (by decide) (Nat.le_of_ble_eq_true rfl) ?_
  intro p e s m args below meth c hx hb hr hlocks hml hown hw hv ls hl Q hQ
  obtain ⟨hP, hK, hN, hD0⟩ := hv
  have hl : lv_has ls 6 [(0, .ref a_this), (1, .long x1)] := hl
  obtain ⟨A, hA2⟩ : ∃ A, A = mo_A [(a_this, .inr (3, [.ref a_blocks, .int v_k, .long v_members, .long v_tips, .ref a_past, .ref a_future, .ref a_blues, .ref a_scores, .ref a_selected, .ref a_sequence, .ref a_sorted])), (a_blocks, .inr (2, [.int v_blocks_made, .ref a_blocks_parentCounts, .ref a_blocks_parents, .ref a_blocks_includedCounts, .ref a_blocks_included, .ref a_blocks_locks, .ref a_blocks_hashes])), (a_sorted, .inl (cI, 60, .inl f_sorted)), (a_scores, .inl (cI, 61, .inl f_scores)), (a_blocks_hashes, .inl (cI, 60, .inl f_blocks_hashes))] := ⟨_, rfl⟩
  have hD : va_D A [(a_this, .inr (3, [.ref a_blocks, .int v_k, .long v_members, .long v_tips, .ref a_past, .ref a_future, .ref a_blues, .ref a_scores, .ref a_selected, .ref a_sequence, .ref a_sorted])), (a_blocks, .inr (2, [.int v_blocks_made, .ref a_blocks_parentCounts, .ref a_blocks_parents, .ref a_blocks_includedCounts, .ref a_blocks_included, .ref a_blocks_locks, .ref a_blocks_hashes])), (a_sorted, .inl (cI, 60, .inl f_sorted)), (a_scores, .inl (cI, 61, .inl f_scores)), (a_blocks_hashes, .inl (cI, 60, .inl f_blocks_hashes))] := hA2 ▸ mo_self hD0
  have hS : va_S A s.heap s.heap [] := va_S.rf
  unfold m_dg_sortByScore at h
  refine lv_iconst (pc := 0) (v := 0) hx hb d_dg_sortByScore_0 (by decide) ?_
  refine lv_istore_n (pc := 1) (lv' := [(3, .int 0), (0, .ref a_this), (1, .long x1)]) hx hb d_dg_sortByScore_1 rfl hl (by decide) rfl (fun ls hl => ?_)
  refine lv_iconst (pc := 2) (v := 0) hx hb d_dg_sortByScore_2 (by decide) ?_
  refine lv_istore (pc := 3) (lv' := [(4, .int 0), (3, .int 0), (0, .ref a_this), (1, .long x1)]) hx hb d_dg_sortByScore_3 hl (by decide) rfl (fun ls hl => ?_)
  obtain ⟨w5, K5, eK5, hy5, hr5⟩ := mo_bd_k h
  have E5 : ∀ (y5_3 : Int32) (y5_f_sorted : Nat → Int32) (ls : Array Slot) (H : Heap) (locs : List Loc) (hP : va_P D cl [(a_this, .inr (3, [.ref a_blocks, .int v_k, .long v_members, .long v_tips, .ref a_past, .ref a_future, .ref a_blues, .ref a_scores, .ref a_selected, .ref a_sequence, .ref a_sorted])), (a_blocks, .inr (2, [.int v_blocks_made, .ref a_blocks_parentCounts, .ref a_blocks_parents, .ref a_blocks_includedCounts, .ref a_blocks_included, .ref a_blocks_locks, .ref a_blocks_hashes])), (a_sorted, .inl (cI, 60, .inl y5_f_sorted)), (a_scores, .inl (cI, 61, .inl f_scores)), (a_blocks_hashes, .inl (cI, 60, .inl f_blocks_hashes))] H) (hD : va_D A [(a_this, .inr (3, [.ref a_blocks, .int v_k, .long v_members, .long v_tips, .ref a_past, .ref a_future, .ref a_blues, .ref a_scores, .ref a_selected, .ref a_sequence, .ref a_sorted])), (a_blocks, .inr (2, [.int v_blocks_made, .ref a_blocks_parentCounts, .ref a_blocks_parents, .ref a_blocks_includedCounts, .ref a_blocks_included, .ref a_blocks_locks, .ref a_blocks_hashes])), (a_sorted, .inl (cI, 60, .inl y5_f_sorted)), (a_scores, .inl (cI, 61, .inl f_scores)), (a_blocks_hashes, .inl (cI, 60, .inl f_blocks_hashes))]) (hS : va_S A s.heap H locs) (hl : lv_has ls 6 [(3, .int y5_3)]) (h : K5 (y5_3, y5_f_sorted) = some o), W p l e rm_dg_sortByScore s m args below meth c H locs 0 0 Q (F0 m 95 ls []) := by
    intro y5_3 y5_f_sorted ls H locs hP hD hS hl h
    have h := mo_a1 eK5 h
    try dsimp only at h
    refine lv_iload_n (pc := 95) hx hb d_dg_sortByScore_95 rfl (lv_at hl 0 rfl) ?_
    exact mo_retIm hx hb hr hlocks hQ hA2 h hP hS d_dg_sortByScore_96 rfl
  exact mo_lp_i (step := (m_dg_sortByScore_L5 v_blocks_made f_scores f_blocks_hashes x1)) (o := w5) (fun (x : Int32 × Int32 × (Nat → Int32)) => match x with | (z5_3, z5_4, z5_f_sorted) => ∀ (ls : Array Slot) (H : Heap) (locs : List Loc) (hP : va_P D cl [(a_this, .inr (3, [.ref a_blocks, .int v_k, .long v_members, .long v_tips, .ref a_past, .ref a_future, .ref a_blues, .ref a_scores, .ref a_selected, .ref a_sequence, .ref a_sorted])), (a_blocks, .inr (2, [.int v_blocks_made, .ref a_blocks_parentCounts, .ref a_blocks_parents, .ref a_blocks_includedCounts, .ref a_blocks_included, .ref a_blocks_locks, .ref a_blocks_hashes])), (a_sorted, .inl (cI, 60, .inl z5_f_sorted)), (a_scores, .inl (cI, 61, .inl f_scores)), (a_blocks_hashes, .inl (cI, 60, .inl f_blocks_hashes))] H) (hD : va_D A [(a_this, .inr (3, [.ref a_blocks, .int v_k, .long v_members, .long v_tips, .ref a_past, .ref a_future, .ref a_blues, .ref a_scores, .ref a_selected, .ref a_sequence, .ref a_sorted])), (a_blocks, .inr (2, [.int v_blocks_made, .ref a_blocks_parentCounts, .ref a_blocks_parents, .ref a_blocks_includedCounts, .ref a_blocks_included, .ref a_blocks_locks, .ref a_blocks_hashes])), (a_sorted, .inl (cI, 60, .inl z5_f_sorted)), (a_scores, .inl (cI, 61, .inl f_scores)), (a_blocks_hashes, .inl (cI, 60, .inl f_blocks_hashes))]) (hS : va_S A s.heap H locs) (hl : lv_has ls 6 [(0, .ref a_this), (1, .long x1), (3, .int z5_3), (4, .int z5_4)]), W p l e rm_dg_sortByScore s m args below meth c H locs 0 0 Q (F0 m 5 ls [])) (by
      rintro bk5 hb5 ⟨z5_3, z5_4, z5_f_sorted⟩ h ls H locs hP hD hS hl
      unfold m_dg_sortByScore_L5 at h
      try dsimp only at h
      refine lv_iload (pc := 5) hx hb d_dg_sortByScore_5 (lv_at hl 3 rfl) ?_
      refine lv_aload_n (pc := 7) hx hb d_dg_sortByScore_7 rfl (lv_at hl 0 rfl) ?_
      refine gf_dg_34 (pc := 8) hx hb hw hN hown hK hP 0 rfl rfl d_dg_sortByScore_8 ?_
      refine gf_dg_72 (pc := 11) hx hb hw hN hown hK hP 1 rfl rfl d_dg_sortByScore_11 ?_
      refine lv_icmp_ge (pc := 14) (tgt := 95) hx hb d_dg_sortByScore_14 rfl (fun hc => ?_) (fun hc => ?_)
      · have h := mo_t hc h
        exact E5 z5_3 z5_f_sorted _ _ _ hP hD hS (lv_sub hl [2] rfl) (by rw [Option.some.inj h]; exact hr5)
      · have h := mo_f hc h
        refine lv_lload_n (pc := 17) hx hb d_dg_sortByScore_17 rfl (lv_at hl 1 rfl) ?_
        refine lv_iload (pc := 18) hx hb d_dg_sortByScore_18 (lv_at hl 3 rfl) ?_
        obtain ⟨r20, hr20, h⟩ := mo_bd_e h
        refine mo_rSN (pc := 20) (As := [.long x1, .int z5_4]) (rest := []) (st1 := [.int r20]) ⟨hx, hb, hml, hown, hw⟩ (c_bm_holds l D cI cL cZ x1 z5_4 r20 hr20) (kSN_dg_52 hw hN ⟨by decide, by decide⟩) mo_P0 hK hN rfl hl.1 rfl rfl d_dg_sortByScore_20 rfl ?_
        obtain ⟨j89, ej89, h⟩ := mo_jn_e h
        have B89 : ∀ (y89_3 : Int32) (y89_f_sorted : Nat → Int32) (ls : Array Slot) (H : Heap) (locs : List Loc) (hP : va_P D cl [(a_this, .inr (3, [.ref a_blocks, .int v_k, .long v_members, .long v_tips, .ref a_past, .ref a_future, .ref a_blues, .ref a_scores, .ref a_selected, .ref a_sequence, .ref a_sorted])), (a_blocks, .inr (2, [.int v_blocks_made, .ref a_blocks_parentCounts, .ref a_blocks_parents, .ref a_blocks_includedCounts, .ref a_blocks_included, .ref a_blocks_locks, .ref a_blocks_hashes])), (a_sorted, .inl (cI, 60, .inl y89_f_sorted)), (a_scores, .inl (cI, 61, .inl f_scores)), (a_blocks_hashes, .inl (cI, 60, .inl f_blocks_hashes))] H) (hD : va_D A [(a_this, .inr (3, [.ref a_blocks, .int v_k, .long v_members, .long v_tips, .ref a_past, .ref a_future, .ref a_blues, .ref a_scores, .ref a_selected, .ref a_sequence, .ref a_sorted])), (a_blocks, .inr (2, [.int v_blocks_made, .ref a_blocks_parentCounts, .ref a_blocks_parents, .ref a_blocks_includedCounts, .ref a_blocks_included, .ref a_blocks_locks, .ref a_blocks_hashes])), (a_sorted, .inl (cI, 60, .inl y89_f_sorted)), (a_scores, .inl (cI, 61, .inl f_scores)), (a_blocks_hashes, .inl (cI, 60, .inl f_blocks_hashes))]) (hS : va_S A s.heap H locs) (hl : lv_has ls 6 [(0, .ref a_this), (1, .long x1), (3, .int y89_3), (4, .int z5_4)]) (h : j89 y89_3 y89_f_sorted = some w5), W p l e rm_dg_sortByScore s m args below meth c H locs 0 0 Q (F0 m 89 ls []) := by
          intro y89_3 y89_f_sorted ls H locs hP hD hS hl h
          have h := mo_a2 ej89 h
          refine lv_iinc (pc := 89) (k := 3) (v := z5_4 + 1) (lv' := [(4, .int (z5_4 + 1)), (0, .ref a_this), (1, .long x1), (3, .int y89_3)]) hx hb d_dg_sortByScore_89 hl rfl (mo_inc1 _) (by decide) rfl (fun ls hl => ?_)
          refine lv_goto (pc := 92) (tgt := 5) hx hb d_dg_sortByScore_92 rfl ?_
          exact hb5 (y89_3, z5_4 + 1, y89_f_sorted) h _ _ _ hP hD hS (lv_sub hl [1, 2, 3, 0] rfl)
        refine lv_if_ne (pc := 23) (tgt := 29) hx hb d_dg_sortByScore_23 rfl (fun hc => ?_) (fun hc => ?_)
        · have h := mo_f hc h
          refine lv_iload_n (pc := 29) hx hb d_dg_sortByScore_29 rfl (lv_at hl 2 rfl) ?_
          refine lv_istore (pc := 30) (lv' := [(5, .int z5_3), (0, .ref a_this), (1, .long x1), (3, .int z5_3), (4, .int z5_4)]) hx hb d_dg_sortByScore_30 hl (by decide) rfl (fun ls hl => ?_)
          obtain ⟨w32, K32, eK32, hy32, hr32⟩ := mo_bd_k h
          have E32 : ∀ (y32_5 : Int32) (y32_f_sorted : Nat → Int32) (ls : Array Slot) (H : Heap) (locs : List Loc) (hP : va_P D cl [(a_this, .inr (3, [.ref a_blocks, .int v_k, .long v_members, .long v_tips, .ref a_past, .ref a_future, .ref a_blues, .ref a_scores, .ref a_selected, .ref a_sequence, .ref a_sorted])), (a_blocks, .inr (2, [.int v_blocks_made, .ref a_blocks_parentCounts, .ref a_blocks_parents, .ref a_blocks_includedCounts, .ref a_blocks_included, .ref a_blocks_locks, .ref a_blocks_hashes])), (a_sorted, .inl (cI, 60, .inl y32_f_sorted)), (a_scores, .inl (cI, 61, .inl f_scores)), (a_blocks_hashes, .inl (cI, 60, .inl f_blocks_hashes))] H) (hD : va_D A [(a_this, .inr (3, [.ref a_blocks, .int v_k, .long v_members, .long v_tips, .ref a_past, .ref a_future, .ref a_blues, .ref a_scores, .ref a_selected, .ref a_sequence, .ref a_sorted])), (a_blocks, .inr (2, [.int v_blocks_made, .ref a_blocks_parentCounts, .ref a_blocks_parents, .ref a_blocks_includedCounts, .ref a_blocks_included, .ref a_blocks_locks, .ref a_blocks_hashes])), (a_sorted, .inl (cI, 60, .inl y32_f_sorted)), (a_scores, .inl (cI, 61, .inl f_scores)), (a_blocks_hashes, .inl (cI, 60, .inl f_blocks_hashes))]) (hS : va_S A s.heap H locs) (hl : lv_has ls 6 [(0, .ref a_this), (1, .long x1), (3, .int z5_3), (4, .int z5_4), (5, .int y32_5)]) (h : K32 (y32_5, y32_f_sorted) = some w5), W p l e rm_dg_sortByScore s m args below meth c H locs 0 0 Q (F0 m 77 ls []) := by
            intro y32_5 y32_f_sorted ls H locs hP hD hS hl h
            have h := mo_a1 eK32 h
            try dsimp only at h
            refine lv_aload_n (pc := 77) hx hb d_dg_sortByScore_77 rfl (lv_at hl 0 rfl) ?_
            refine gf_dg_31 (pc := 78) hx hb hw hN hown hK hP 0 rfl rfl d_dg_sortByScore_78 ?_
            refine lv_iload (pc := 81) hx hb d_dg_sortByScore_81 (lv_at hl 4 rfl) ?_
            refine lv_iload (pc := 83) hx hb d_dg_sortByScore_83 (lv_at hl 3 rfl) ?_
            obtain ⟨g85, hi85, e85, h⟩ := mo_wI_e h
            refine mo_iast (pc := 85) hx hb hK hP hD hS 2 0 rfl rfl hi85 e85 d_dg_sortByScore_85 (fun H locs hP hD hS => ?_)
            have hP : va_P D cl [(a_this, .inr (3, [.ref a_blocks, .int v_k, .long v_members, .long v_tips, .ref a_past, .ref a_future, .ref a_blues, .ref a_scores, .ref a_selected, .ref a_sequence, .ref a_sorted])), (a_blocks, .inr (2, [.int v_blocks_made, .ref a_blocks_parentCounts, .ref a_blocks_parents, .ref a_blocks_includedCounts, .ref a_blocks_included, .ref a_blocks_locks, .ref a_blocks_hashes])), (a_sorted, .inl (cI, 60, .inl g85)), (a_scores, .inl (cI, 61, .inl f_scores)), (a_blocks_hashes, .inl (cI, 60, .inl f_blocks_hashes))] H := hP
            have hD : va_D A [(a_this, .inr (3, [.ref a_blocks, .int v_k, .long v_members, .long v_tips, .ref a_past, .ref a_future, .ref a_blues, .ref a_scores, .ref a_selected, .ref a_sequence, .ref a_sorted])), (a_blocks, .inr (2, [.int v_blocks_made, .ref a_blocks_parentCounts, .ref a_blocks_parents, .ref a_blocks_includedCounts, .ref a_blocks_included, .ref a_blocks_locks, .ref a_blocks_hashes])), (a_sorted, .inl (cI, 60, .inl g85)), (a_scores, .inl (cI, 61, .inl f_scores)), (a_blocks_hashes, .inl (cI, 60, .inl f_blocks_hashes))] := hD
            refine lv_iinc (pc := 86) (k := 2) (v := z5_3 + 1) (lv' := [(3, .int (z5_3 + 1)), (0, .ref a_this), (1, .long x1), (4, .int z5_4), (5, .int y32_5)]) hx hb d_dg_sortByScore_86 hl rfl (mo_inc1 _) (by decide) rfl (fun ls hl => ?_)
            exact B89 (z5_3 + 1) g85 _ _ _ hP hD hS (lv_sub hl [1, 2, 0, 3] rfl) h
          exact mo_lp_i (step := (m_dg_sortByScore_L32 f_scores f_blocks_hashes z5_4)) (o := w32) (fun (x : Int32 × (Nat → Int32)) => match x with | (z32_5, z32_f_sorted) => ∀ (ls : Array Slot) (H : Heap) (locs : List Loc) (hP : va_P D cl [(a_this, .inr (3, [.ref a_blocks, .int v_k, .long v_members, .long v_tips, .ref a_past, .ref a_future, .ref a_blues, .ref a_scores, .ref a_selected, .ref a_sequence, .ref a_sorted])), (a_blocks, .inr (2, [.int v_blocks_made, .ref a_blocks_parentCounts, .ref a_blocks_parents, .ref a_blocks_includedCounts, .ref a_blocks_included, .ref a_blocks_locks, .ref a_blocks_hashes])), (a_sorted, .inl (cI, 60, .inl z32_f_sorted)), (a_scores, .inl (cI, 61, .inl f_scores)), (a_blocks_hashes, .inl (cI, 60, .inl f_blocks_hashes))] H) (hD : va_D A [(a_this, .inr (3, [.ref a_blocks, .int v_k, .long v_members, .long v_tips, .ref a_past, .ref a_future, .ref a_blues, .ref a_scores, .ref a_selected, .ref a_sequence, .ref a_sorted])), (a_blocks, .inr (2, [.int v_blocks_made, .ref a_blocks_parentCounts, .ref a_blocks_parents, .ref a_blocks_includedCounts, .ref a_blocks_included, .ref a_blocks_locks, .ref a_blocks_hashes])), (a_sorted, .inl (cI, 60, .inl z32_f_sorted)), (a_scores, .inl (cI, 61, .inl f_scores)), (a_blocks_hashes, .inl (cI, 60, .inl f_blocks_hashes))]) (hS : va_S A s.heap H locs) (hl : lv_has ls 6 [(0, .ref a_this), (1, .long x1), (3, .int z5_3), (4, .int z5_4), (5, .int z32_5)]), W p l e rm_dg_sortByScore s m args below meth c H locs 0 0 Q (F0 m 32 ls [])) (by
              rintro bk32 hb32 ⟨z32_5, z32_f_sorted⟩ h ls H locs hP hD hS hl
              unfold m_dg_sortByScore_L32 at h
              try dsimp only at h
              refine lv_iload (pc := 32) hx hb d_dg_sortByScore_32 (lv_at hl 4 rfl) ?_
              refine lv_if_le (pc := 34) (tgt := 77) hx hb d_dg_sortByScore_34 rfl (fun hc => ?_) (fun hc => ?_)
              · have h := mo_t hc h
                exact E32 z32_5 z32_f_sorted _ _ _ hP hD hS (lv_sub hl [0, 1, 2, 3, 4] rfl) (by rw [Option.some.inj h]; exact hr32)
              · have h := mo_f hc h
                refine lv_aload_n (pc := 37) hx hb d_dg_sortByScore_37 rfl (lv_at hl 0 rfl) ?_
                refine lv_iload (pc := 38) hx hb d_dg_sortByScore_38 (lv_at hl 3 rfl) ?_
                refine lv_aload_n (pc := 40) hx hb d_dg_sortByScore_40 rfl (lv_at hl 0 rfl) ?_
                refine gf_dg_31 (pc := 41) hx hb hw hN hown hK hP 0 rfl rfl d_dg_sortByScore_41 ?_
                refine lv_iload (pc := 44) hx hb d_dg_sortByScore_44 (lv_at hl 4 rfl) ?_
                refine lv_iconst (pc := 46) (v := 1) hx hb d_dg_sortByScore_46 (by decide) ?_
                refine lv_isub (pc := 47) hx hb d_dg_sortByScore_47 ?_
                obtain ⟨v48, hi48, e48, h⟩ := mo_rI_e h
                refine mo_iald (pc := 48) hx hb hK hP 2 0 rfl rfl hi48 e48 d_dg_sortByScore_48 ?_
                obtain ⟨r49, hr49, h⟩ := mo_bd_e h
                refine mo_rV (pc := 49) (As := [.int z5_4, .int v48]) (rest := []) (st1 := [.int r49]) ⟨hx, hb, hml, hown, hw⟩ (c_dg_isBefore l D cI cL cZ a_this a_scores a_blocks a_blocks_hashes a_past a_future a_blues a_selected a_sequence a_sorted a_blocks_parentCounts a_blocks_parents a_blocks_includedCounts a_blocks_included a_blocks_locks v_k v_members v_tips v_blocks_made f_scores f_blocks_hashes z5_4 v48 r49 hr49) (kV_dg_111 hw ⟨by decide, by decide⟩) (hP.sub [0, 3, 1, 4] rfl) hK hN rfl rfl rfl hl.1 rfl rfl d_dg_sortByScore_49 rfl ?_
                refine lv_if_eq (pc := 52) (tgt := 77) hx hb d_dg_sortByScore_52 rfl (fun hc => ?_) (fun hc => ?_)
                · have h := mo_t hc h
                  exact E32 z32_5 z32_f_sorted _ _ _ hP hD hS (lv_sub hl [0, 1, 2, 3, 4] rfl) (by rw [Option.some.inj h]; exact hr32)
                · have h := mo_f hc h
                  refine lv_aload_n (pc := 55) hx hb d_dg_sortByScore_55 rfl (lv_at hl 0 rfl) ?_
                  refine gf_dg_31 (pc := 56) hx hb hw hN hown hK hP 0 rfl rfl d_dg_sortByScore_56 ?_
                  refine lv_iload (pc := 59) hx hb d_dg_sortByScore_59 (lv_at hl 4 rfl) ?_
                  refine lv_aload_n (pc := 61) hx hb d_dg_sortByScore_61 rfl (lv_at hl 0 rfl) ?_
                  refine gf_dg_31 (pc := 62) hx hb hw hN hown hK hP 0 rfl rfl d_dg_sortByScore_62 ?_
                  refine lv_iload (pc := 65) hx hb d_dg_sortByScore_65 (lv_at hl 4 rfl) ?_
                  refine lv_iconst (pc := 67) (v := 1) hx hb d_dg_sortByScore_67 (by decide) ?_
                  refine lv_isub (pc := 68) hx hb d_dg_sortByScore_68 ?_
                  obtain ⟨v69, hi69, e69, h⟩ := mo_rI_e h
                  refine mo_iald (pc := 69) hx hb hK hP 2 0 rfl rfl hi69 e69 d_dg_sortByScore_69 ?_
                  obtain ⟨g70, hi70, e70, h⟩ := mo_wI_e h
                  refine mo_iast (pc := 70) hx hb hK hP hD hS 2 0 rfl rfl hi70 e70 d_dg_sortByScore_70 (fun H locs hP hD hS => ?_)
                  have hP : va_P D cl [(a_this, .inr (3, [.ref a_blocks, .int v_k, .long v_members, .long v_tips, .ref a_past, .ref a_future, .ref a_blues, .ref a_scores, .ref a_selected, .ref a_sequence, .ref a_sorted])), (a_blocks, .inr (2, [.int v_blocks_made, .ref a_blocks_parentCounts, .ref a_blocks_parents, .ref a_blocks_includedCounts, .ref a_blocks_included, .ref a_blocks_locks, .ref a_blocks_hashes])), (a_sorted, .inl (cI, 60, .inl g70)), (a_scores, .inl (cI, 61, .inl f_scores)), (a_blocks_hashes, .inl (cI, 60, .inl f_blocks_hashes))] H := hP
                  have hD : va_D A [(a_this, .inr (3, [.ref a_blocks, .int v_k, .long v_members, .long v_tips, .ref a_past, .ref a_future, .ref a_blues, .ref a_scores, .ref a_selected, .ref a_sequence, .ref a_sorted])), (a_blocks, .inr (2, [.int v_blocks_made, .ref a_blocks_parentCounts, .ref a_blocks_parents, .ref a_blocks_includedCounts, .ref a_blocks_included, .ref a_blocks_locks, .ref a_blocks_hashes])), (a_sorted, .inl (cI, 60, .inl g70)), (a_scores, .inl (cI, 61, .inl f_scores)), (a_blocks_hashes, .inl (cI, 60, .inl f_blocks_hashes))] := hD
                  refine lv_iinc (pc := 71) (k := 4) (v := z32_5 + (-1)) (lv' := [(5, .int (z32_5 + (-1))), (0, .ref a_this), (1, .long x1), (3, .int z5_3), (4, .int z5_4)]) hx hb d_dg_sortByScore_71 hl rfl (mo_incm1 _) (by decide) rfl (fun ls hl => ?_)
                  refine lv_goto (pc := 74) (tgt := 32) hx hb d_dg_sortByScore_74 rfl ?_
                  exact hb32 (z32_5 + (-1), g70) h _ _ _ hP hD hS (lv_sub hl [1, 2, 3, 4, 0] rfl)
            ) _ _ hy32 _ _ _ hP hD hS (lv_sub hl [1, 2, 3, 4, 0] rfl)
        · have h := mo_t hc h
          refine lv_goto (pc := 26) (tgt := 89) hx hb d_dg_sortByScore_26 rfl ?_
          exact B89 z5_3 z5_f_sorted _ _ _ hP hD hS (lv_sub hl [0, 1, 2, 3] rfl) h
    ) _ _ hy5 _ _ _ hP hD hS (lv_sub hl [2, 3, 1, 0] rfl)
set_option maxRecDepth 100000 in
set_option maxHeartbeats 4000000 in
theorem c_dg_anticone (l : Launch) (D : va_G) (cI cL cZ : ClassId) (a_this : Nat) (a_past : Nat) (a_future : Nat) (a_blocks : Nat) (a_blues : Nat) (a_scores : Nat) (a_selected : Nat) (a_sequence : Nat) (a_sorted : Nat) (v_k : Int32) (v_members : Int64) (v_tips : Int64) (f_past : Nat → Int64) (f_future : Nat → Int64) (x1 : Int32) (o : Int64) (h : m_dg_anticone v_members f_past f_future x1 = some o) : Met l y_dg_anticone (Cond.code y_dg_anticone b_dg_anticone 2 (some .long) :: WG) rm_dg_anticone (va_Pc [.ref a_this, .int x1] (mo_Pr D [(cI, .int), (cL, .long), (cZ, .boolean)] [(a_this, .inr (3, [.ref a_blocks, .int v_k, .long v_members, .long v_tips, .ref a_past, .ref a_future, .ref a_blues, .ref a_scores, .ref a_selected, .ref a_sequence, .ref a_sorted])), (a_past, .inl (cL, 61, .inr (.inl f_past))), (a_future, .inl (cL, 60, .inr (.inl f_future)))])) (mo_Qr (some (.long o))) 0 0 (fun _ => False) := by
  refine mo_start (by decide) (Nat.le_of_ble_eq_true rfl) ?_
  intro p e s m args below meth c hx hb hr hlocks hml hown hw hv ls hl Q hQ
  obtain ⟨hP, hK, hN⟩ := hv
  have hl : lv_has ls 2 [(0, .ref a_this), (1, .int x1)] := hl
  unfold m_dg_anticone at h
  refine lv_aload_n (pc := 0) hx hb d_dg_anticone_0 rfl (lv_at hl 0 rfl) ?_
  refine gf_dg_42 (pc := 1) hx hb hw hN hown hK hP 0 rfl rfl d_dg_anticone_1 ?_
  refine lv_aload_n (pc := 4) hx hb d_dg_anticone_4 rfl (lv_at hl 0 rfl) ?_
  refine gf_dg_9 (pc := 5) hx hb hw hN hown hK hP 0 rfl rfl d_dg_anticone_5 ?_
  refine lv_iload_n (pc := 8) hx hb d_dg_anticone_8 rfl (lv_at hl 1 rfl) ?_
  obtain ⟨v9, hi9, e9, h⟩ := mo_rL_e h
  refine mo_lald (pc := 9) hx hb hK hP 1 1 rfl rfl hi9 e9 d_dg_anticone_9 ?_
  refine lv_ldc2 (pc := 10) (v := (-1)) hx hb hown (hw _ wd_2_17) d_dg_anticone_10 ?_
  refine lv_lxor (pc := 13) hx hb d_dg_anticone_13 ?_
  refine lv_land (pc := 14) hx hb d_dg_anticone_14 ?_
  refine lv_aload_n (pc := 15) hx hb d_dg_anticone_15 rfl (lv_at hl 0 rfl) ?_
  refine gf_dg_15 (pc := 16) hx hb hw hN hown hK hP 0 rfl rfl d_dg_anticone_16 ?_
  refine lv_iload_n (pc := 19) hx hb d_dg_anticone_19 rfl (lv_at hl 1 rfl) ?_
  obtain ⟨v20, hi20, e20, h⟩ := mo_rL_e h
  refine mo_lald (pc := 20) hx hb hK hP 2 1 rfl rfl hi20 e20 d_dg_anticone_20 ?_
  refine lv_ldc2 (pc := 21) (v := (-1)) hx hb hown (hw _ wd_2_17) d_dg_anticone_21 ?_
  refine lv_lxor (pc := 24) hx hb d_dg_anticone_24 ?_
  refine lv_land (pc := 25) hx hb d_dg_anticone_25 ?_
  refine lv_iload_n (pc := 26) hx hb d_dg_anticone_26 rfl (lv_at hl 1 rfl) ?_
  obtain ⟨r27, hr27, h⟩ := mo_bd_e h
  refine mo_rSN (pc := 27) (As := [.int x1]) (rest := [.long ((v_members &&& (v9 ^^^ ((-1)))) &&& (v20 ^^^ ((-1))))]) (st1 := [.long r27, .long ((v_members &&& (v9 ^^^ ((-1)))) &&& (v20 ^^^ ((-1))))]) ⟨hx, hb, hml, hown, hw⟩ (c_bm_bit l D cI cL cZ x1 r27 hr27) (kSN_dg_79 hw hN ⟨by decide, by decide⟩) mo_P0 hK hN rfl hl.1 rfl rfl d_dg_anticone_27 rfl ?_
  refine lv_ldc2 (pc := 30) (v := (-1)) hx hb hown (hw _ wd_2_17) d_dg_anticone_30 ?_
  refine lv_lxor (pc := 33) hx hb d_dg_anticone_33 ?_
  refine lv_land (pc := 34) hx hb d_dg_anticone_34 ?_
  exact mo_retLr hx hb hr hlocks hQ h d_dg_anticone_35
set_option maxRecDepth 100000 in
set_option maxHeartbeats 4000000 in
theorem c_jl_bitCount (l : Launch) (D : va_G) (cI cL cZ : ClassId) (x0 : Int64) (o : Int32) (h : m_jl_bitCount x0 = some o) : Met l y_jl_bitCount (Cond.code y_jl_bitCount b_jl_bitCount 2 (some .int) :: WG) rm_jl_bitCount (va_Pc [.long x0] (mo_Pr D [(cI, .int), (cL, .long), (cZ, .boolean)] [])) (mo_Qr (some (.int o))) 0 0 (fun _ => False) := by
  refine mo_start (by decide) (Nat.le_of_ble_eq_true rfl) ?_
  intro p e s m args below meth c hx hb hr hlocks hml hown hw hv ls hl Q hQ
  obtain ⟨hP, hK, hN⟩ := hv
  have hl : lv_has ls 2 [(0, .long x0)] := hl
  unfold m_jl_bitCount at h
  refine lv_lload_n (pc := 0) hx hb d_jl_bitCount_0 rfl (lv_at hl 0 rfl) ?_
  refine lv_lload_n (pc := 1) hx hb d_jl_bitCount_1 rfl (lv_at hl 0 rfl) ?_
  refine lv_iconst (pc := 2) (v := 1) hx hb d_jl_bitCount_2 (by decide) ?_
  refine lv_lushr (pc := 3) hx hb d_jl_bitCount_3 rfl ?_
  refine lv_ldc2 (pc := 4) (v := 6148914691236517205) hx hb hown (hw _ wd_2_37) d_jl_bitCount_4 ?_
  refine lv_land (pc := 7) hx hb d_jl_bitCount_7 ?_
  refine lv_lsub (pc := 8) hx hb d_jl_bitCount_8 ?_
  refine lv_lstore_n (pc := 9) (lv' := [(0, .long (x0 - (((x0.toUInt64 >>> ((1 : Int32).toInt64.toUInt64 &&& Int64.toUInt64 63)).toInt64) &&& 6148914691236517205)))]) hx hb d_jl_bitCount_9 rfl hl (by decide) rfl (fun ls hl => ?_)
  refine lv_lload_n (pc := 10) hx hb d_jl_bitCount_10 rfl (lv_at hl 0 rfl) ?_
  refine lv_ldc2 (pc := 11) (v := 3689348814741910323) hx hb hown (hw _ wd_2_38) d_jl_bitCount_11 ?_
  refine lv_land (pc := 14) hx hb d_jl_bitCount_14 ?_
  refine lv_lload_n (pc := 15) hx hb d_jl_bitCount_15 rfl (lv_at hl 0 rfl) ?_
  refine lv_iconst (pc := 16) (v := 2) hx hb d_jl_bitCount_16 (by decide) ?_
  refine lv_lushr (pc := 17) hx hb d_jl_bitCount_17 rfl ?_
  refine lv_ldc2 (pc := 18) (v := 3689348814741910323) hx hb hown (hw _ wd_2_38) d_jl_bitCount_18 ?_
  refine lv_land (pc := 21) hx hb d_jl_bitCount_21 ?_
  refine lv_ladd (pc := 22) hx hb d_jl_bitCount_22 ?_
  refine lv_lstore_n (pc := 23) (lv' := [(0, .long (((x0 - (((x0.toUInt64 >>> ((1 : Int32).toInt64.toUInt64 &&& Int64.toUInt64 63)).toInt64) &&& 6148914691236517205)) &&& 3689348814741910323) + ((((x0 - (((x0.toUInt64 >>> ((1 : Int32).toInt64.toUInt64 &&& Int64.toUInt64 63)).toInt64) &&& 6148914691236517205)).toUInt64 >>> ((2 : Int32).toInt64.toUInt64 &&& Int64.toUInt64 63)).toInt64) &&& 3689348814741910323)))]) hx hb d_jl_bitCount_23 rfl hl (by decide) rfl (fun ls hl => ?_)
  refine lv_lload_n (pc := 24) hx hb d_jl_bitCount_24 rfl (lv_at hl 0 rfl) ?_
  refine lv_lload_n (pc := 25) hx hb d_jl_bitCount_25 rfl (lv_at hl 0 rfl) ?_
  refine lv_iconst (pc := 26) (v := 4) hx hb d_jl_bitCount_26 (by decide) ?_
  refine lv_lushr (pc := 27) hx hb d_jl_bitCount_27 rfl ?_
  refine lv_ladd (pc := 28) hx hb d_jl_bitCount_28 ?_
  refine lv_ldc2 (pc := 29) (v := 1085102592571150095) hx hb hown (hw _ wd_2_39) d_jl_bitCount_29 ?_
  refine lv_land (pc := 32) hx hb d_jl_bitCount_32 ?_
  refine lv_lstore_n (pc := 33) (lv' := [(0, .long (((((x0 - (((x0.toUInt64 >>> ((1 : Int32).toInt64.toUInt64 &&& Int64.toUInt64 63)).toInt64) &&& 6148914691236517205)) &&& 3689348814741910323) + ((((x0 - (((x0.toUInt64 >>> ((1 : Int32).toInt64.toUInt64 &&& Int64.toUInt64 63)).toInt64) &&& 6148914691236517205)).toUInt64 >>> ((2 : Int32).toInt64.toUInt64 &&& Int64.toUInt64 63)).toInt64) &&& 3689348814741910323)) + (((((x0 - (((x0.toUInt64 >>> ((1 : Int32).toInt64.toUInt64 &&& Int64.toUInt64 63)).toInt64) &&& 6148914691236517205)) &&& 3689348814741910323) + ((((x0 - (((x0.toUInt64 >>> ((1 : Int32).toInt64.toUInt64 &&& Int64.toUInt64 63)).toInt64) &&& 6148914691236517205)).toUInt64 >>> ((2 : Int32).toInt64.toUInt64 &&& Int64.toUInt64 63)).toInt64) &&& 3689348814741910323)).toUInt64 >>> ((4 : Int32).toInt64.toUInt64 &&& Int64.toUInt64 63)).toInt64)) &&& 1085102592571150095))]) hx hb d_jl_bitCount_33 rfl hl (by decide) rfl (fun ls hl => ?_)
  refine lv_lload_n (pc := 34) hx hb d_jl_bitCount_34 rfl (lv_at hl 0 rfl) ?_
  refine lv_lload_n (pc := 35) hx hb d_jl_bitCount_35 rfl (lv_at hl 0 rfl) ?_
  refine lv_bipush (pc := 36) (v := 8) hx hb d_jl_bitCount_36 (by decide) ?_
  refine lv_lushr (pc := 38) hx hb d_jl_bitCount_38 rfl ?_
  refine lv_ladd (pc := 39) hx hb d_jl_bitCount_39 ?_
  refine lv_lstore_n (pc := 40) (lv' := [(0, .long ((((((x0 - (((x0.toUInt64 >>> ((1 : Int32).toInt64.toUInt64 &&& Int64.toUInt64 63)).toInt64) &&& 6148914691236517205)) &&& 3689348814741910323) + ((((x0 - (((x0.toUInt64 >>> ((1 : Int32).toInt64.toUInt64 &&& Int64.toUInt64 63)).toInt64) &&& 6148914691236517205)).toUInt64 >>> ((2 : Int32).toInt64.toUInt64 &&& Int64.toUInt64 63)).toInt64) &&& 3689348814741910323)) + (((((x0 - (((x0.toUInt64 >>> ((1 : Int32).toInt64.toUInt64 &&& Int64.toUInt64 63)).toInt64) &&& 6148914691236517205)) &&& 3689348814741910323) + ((((x0 - (((x0.toUInt64 >>> ((1 : Int32).toInt64.toUInt64 &&& Int64.toUInt64 63)).toInt64) &&& 6148914691236517205)).toUInt64 >>> ((2 : Int32).toInt64.toUInt64 &&& Int64.toUInt64 63)).toInt64) &&& 3689348814741910323)).toUInt64 >>> ((4 : Int32).toInt64.toUInt64 &&& Int64.toUInt64 63)).toInt64)) &&& 1085102592571150095) + (((((((x0 - (((x0.toUInt64 >>> ((1 : Int32).toInt64.toUInt64 &&& Int64.toUInt64 63)).toInt64) &&& 6148914691236517205)) &&& 3689348814741910323) + ((((x0 - (((x0.toUInt64 >>> ((1 : Int32).toInt64.toUInt64 &&& Int64.toUInt64 63)).toInt64) &&& 6148914691236517205)).toUInt64 >>> ((2 : Int32).toInt64.toUInt64 &&& Int64.toUInt64 63)).toInt64) &&& 3689348814741910323)) + (((((x0 - (((x0.toUInt64 >>> ((1 : Int32).toInt64.toUInt64 &&& Int64.toUInt64 63)).toInt64) &&& 6148914691236517205)) &&& 3689348814741910323) + ((((x0 - (((x0.toUInt64 >>> ((1 : Int32).toInt64.toUInt64 &&& Int64.toUInt64 63)).toInt64) &&& 6148914691236517205)).toUInt64 >>> ((2 : Int32).toInt64.toUInt64 &&& Int64.toUInt64 63)).toInt64) &&& 3689348814741910323)).toUInt64 >>> ((4 : Int32).toInt64.toUInt64 &&& Int64.toUInt64 63)).toInt64)) &&& 1085102592571150095).toUInt64 >>> ((8 : Int32).toInt64.toUInt64 &&& Int64.toUInt64 63)).toInt64)))]) hx hb d_jl_bitCount_40 rfl hl (by decide) rfl (fun ls hl => ?_)
  refine lv_lload_n (pc := 41) hx hb d_jl_bitCount_41 rfl (lv_at hl 0 rfl) ?_
  refine lv_lload_n (pc := 42) hx hb d_jl_bitCount_42 rfl (lv_at hl 0 rfl) ?_
  refine lv_bipush (pc := 43) (v := 16) hx hb d_jl_bitCount_43 (by decide) ?_
  refine lv_lushr (pc := 45) hx hb d_jl_bitCount_45 rfl ?_
  refine lv_ladd (pc := 46) hx hb d_jl_bitCount_46 ?_
  refine lv_lstore_n (pc := 47) (lv' := [(0, .long (((((((x0 - (((x0.toUInt64 >>> ((1 : Int32).toInt64.toUInt64 &&& Int64.toUInt64 63)).toInt64) &&& 6148914691236517205)) &&& 3689348814741910323) + ((((x0 - (((x0.toUInt64 >>> ((1 : Int32).toInt64.toUInt64 &&& Int64.toUInt64 63)).toInt64) &&& 6148914691236517205)).toUInt64 >>> ((2 : Int32).toInt64.toUInt64 &&& Int64.toUInt64 63)).toInt64) &&& 3689348814741910323)) + (((((x0 - (((x0.toUInt64 >>> ((1 : Int32).toInt64.toUInt64 &&& Int64.toUInt64 63)).toInt64) &&& 6148914691236517205)) &&& 3689348814741910323) + ((((x0 - (((x0.toUInt64 >>> ((1 : Int32).toInt64.toUInt64 &&& Int64.toUInt64 63)).toInt64) &&& 6148914691236517205)).toUInt64 >>> ((2 : Int32).toInt64.toUInt64 &&& Int64.toUInt64 63)).toInt64) &&& 3689348814741910323)).toUInt64 >>> ((4 : Int32).toInt64.toUInt64 &&& Int64.toUInt64 63)).toInt64)) &&& 1085102592571150095) + (((((((x0 - (((x0.toUInt64 >>> ((1 : Int32).toInt64.toUInt64 &&& Int64.toUInt64 63)).toInt64) &&& 6148914691236517205)) &&& 3689348814741910323) + ((((x0 - (((x0.toUInt64 >>> ((1 : Int32).toInt64.toUInt64 &&& Int64.toUInt64 63)).toInt64) &&& 6148914691236517205)).toUInt64 >>> ((2 : Int32).toInt64.toUInt64 &&& Int64.toUInt64 63)).toInt64) &&& 3689348814741910323)) + (((((x0 - (((x0.toUInt64 >>> ((1 : Int32).toInt64.toUInt64 &&& Int64.toUInt64 63)).toInt64) &&& 6148914691236517205)) &&& 3689348814741910323) + ((((x0 - (((x0.toUInt64 >>> ((1 : Int32).toInt64.toUInt64 &&& Int64.toUInt64 63)).toInt64) &&& 6148914691236517205)).toUInt64 >>> ((2 : Int32).toInt64.toUInt64 &&& Int64.toUInt64 63)).toInt64) &&& 3689348814741910323)).toUInt64 >>> ((4 : Int32).toInt64.toUInt64 &&& Int64.toUInt64 63)).toInt64)) &&& 1085102592571150095).toUInt64 >>> ((8 : Int32).toInt64.toUInt64 &&& Int64.toUInt64 63)).toInt64)) + ((((((((x0 - (((x0.toUInt64 >>> ((1 : Int32).toInt64.toUInt64 &&& Int64.toUInt64 63)).toInt64) &&& 6148914691236517205)) &&& 3689348814741910323) + ((((x0 - (((x0.toUInt64 >>> ((1 : Int32).toInt64.toUInt64 &&& Int64.toUInt64 63)).toInt64) &&& 6148914691236517205)).toUInt64 >>> ((2 : Int32).toInt64.toUInt64 &&& Int64.toUInt64 63)).toInt64) &&& 3689348814741910323)) + (((((x0 - (((x0.toUInt64 >>> ((1 : Int32).toInt64.toUInt64 &&& Int64.toUInt64 63)).toInt64) &&& 6148914691236517205)) &&& 3689348814741910323) + ((((x0 - (((x0.toUInt64 >>> ((1 : Int32).toInt64.toUInt64 &&& Int64.toUInt64 63)).toInt64) &&& 6148914691236517205)).toUInt64 >>> ((2 : Int32).toInt64.toUInt64 &&& Int64.toUInt64 63)).toInt64) &&& 3689348814741910323)).toUInt64 >>> ((4 : Int32).toInt64.toUInt64 &&& Int64.toUInt64 63)).toInt64)) &&& 1085102592571150095) + (((((((x0 - (((x0.toUInt64 >>> ((1 : Int32).toInt64.toUInt64 &&& Int64.toUInt64 63)).toInt64) &&& 6148914691236517205)) &&& 3689348814741910323) + ((((x0 - (((x0.toUInt64 >>> ((1 : Int32).toInt64.toUInt64 &&& Int64.toUInt64 63)).toInt64) &&& 6148914691236517205)).toUInt64 >>> ((2 : Int32).toInt64.toUInt64 &&& Int64.toUInt64 63)).toInt64) &&& 3689348814741910323)) + (((((x0 - (((x0.toUInt64 >>> ((1 : Int32).toInt64.toUInt64 &&& Int64.toUInt64 63)).toInt64) &&& 6148914691236517205)) &&& 3689348814741910323) + ((((x0 - (((x0.toUInt64 >>> ((1 : Int32).toInt64.toUInt64 &&& Int64.toUInt64 63)).toInt64) &&& 6148914691236517205)).toUInt64 >>> ((2 : Int32).toInt64.toUInt64 &&& Int64.toUInt64 63)).toInt64) &&& 3689348814741910323)).toUInt64 >>> ((4 : Int32).toInt64.toUInt64 &&& Int64.toUInt64 63)).toInt64)) &&& 1085102592571150095).toUInt64 >>> ((8 : Int32).toInt64.toUInt64 &&& Int64.toUInt64 63)).toInt64)).toUInt64 >>> ((16 : Int32).toInt64.toUInt64 &&& Int64.toUInt64 63)).toInt64)))]) hx hb d_jl_bitCount_47 rfl hl (by decide) rfl (fun ls hl => ?_)
  refine lv_lload_n (pc := 48) hx hb d_jl_bitCount_48 rfl (lv_at hl 0 rfl) ?_
  refine lv_lload_n (pc := 49) hx hb d_jl_bitCount_49 rfl (lv_at hl 0 rfl) ?_
  refine lv_bipush (pc := 50) (v := 32) hx hb d_jl_bitCount_50 (by decide) ?_
  refine lv_lushr (pc := 52) hx hb d_jl_bitCount_52 rfl ?_
  refine lv_ladd (pc := 53) hx hb d_jl_bitCount_53 ?_
  refine lv_lstore_n (pc := 54) (lv' := [(0, .long ((((((((x0 - (((x0.toUInt64 >>> ((1 : Int32).toInt64.toUInt64 &&& Int64.toUInt64 63)).toInt64) &&& 6148914691236517205)) &&& 3689348814741910323) + ((((x0 - (((x0.toUInt64 >>> ((1 : Int32).toInt64.toUInt64 &&& Int64.toUInt64 63)).toInt64) &&& 6148914691236517205)).toUInt64 >>> ((2 : Int32).toInt64.toUInt64 &&& Int64.toUInt64 63)).toInt64) &&& 3689348814741910323)) + (((((x0 - (((x0.toUInt64 >>> ((1 : Int32).toInt64.toUInt64 &&& Int64.toUInt64 63)).toInt64) &&& 6148914691236517205)) &&& 3689348814741910323) + ((((x0 - (((x0.toUInt64 >>> ((1 : Int32).toInt64.toUInt64 &&& Int64.toUInt64 63)).toInt64) &&& 6148914691236517205)).toUInt64 >>> ((2 : Int32).toInt64.toUInt64 &&& Int64.toUInt64 63)).toInt64) &&& 3689348814741910323)).toUInt64 >>> ((4 : Int32).toInt64.toUInt64 &&& Int64.toUInt64 63)).toInt64)) &&& 1085102592571150095) + (((((((x0 - (((x0.toUInt64 >>> ((1 : Int32).toInt64.toUInt64 &&& Int64.toUInt64 63)).toInt64) &&& 6148914691236517205)) &&& 3689348814741910323) + ((((x0 - (((x0.toUInt64 >>> ((1 : Int32).toInt64.toUInt64 &&& Int64.toUInt64 63)).toInt64) &&& 6148914691236517205)).toUInt64 >>> ((2 : Int32).toInt64.toUInt64 &&& Int64.toUInt64 63)).toInt64) &&& 3689348814741910323)) + (((((x0 - (((x0.toUInt64 >>> ((1 : Int32).toInt64.toUInt64 &&& Int64.toUInt64 63)).toInt64) &&& 6148914691236517205)) &&& 3689348814741910323) + ((((x0 - (((x0.toUInt64 >>> ((1 : Int32).toInt64.toUInt64 &&& Int64.toUInt64 63)).toInt64) &&& 6148914691236517205)).toUInt64 >>> ((2 : Int32).toInt64.toUInt64 &&& Int64.toUInt64 63)).toInt64) &&& 3689348814741910323)).toUInt64 >>> ((4 : Int32).toInt64.toUInt64 &&& Int64.toUInt64 63)).toInt64)) &&& 1085102592571150095).toUInt64 >>> ((8 : Int32).toInt64.toUInt64 &&& Int64.toUInt64 63)).toInt64)) + ((((((((x0 - (((x0.toUInt64 >>> ((1 : Int32).toInt64.toUInt64 &&& Int64.toUInt64 63)).toInt64) &&& 6148914691236517205)) &&& 3689348814741910323) + ((((x0 - (((x0.toUInt64 >>> ((1 : Int32).toInt64.toUInt64 &&& Int64.toUInt64 63)).toInt64) &&& 6148914691236517205)).toUInt64 >>> ((2 : Int32).toInt64.toUInt64 &&& Int64.toUInt64 63)).toInt64) &&& 3689348814741910323)) + (((((x0 - (((x0.toUInt64 >>> ((1 : Int32).toInt64.toUInt64 &&& Int64.toUInt64 63)).toInt64) &&& 6148914691236517205)) &&& 3689348814741910323) + ((((x0 - (((x0.toUInt64 >>> ((1 : Int32).toInt64.toUInt64 &&& Int64.toUInt64 63)).toInt64) &&& 6148914691236517205)).toUInt64 >>> ((2 : Int32).toInt64.toUInt64 &&& Int64.toUInt64 63)).toInt64) &&& 3689348814741910323)).toUInt64 >>> ((4 : Int32).toInt64.toUInt64 &&& Int64.toUInt64 63)).toInt64)) &&& 1085102592571150095) + (((((((x0 - (((x0.toUInt64 >>> ((1 : Int32).toInt64.toUInt64 &&& Int64.toUInt64 63)).toInt64) &&& 6148914691236517205)) &&& 3689348814741910323) + ((((x0 - (((x0.toUInt64 >>> ((1 : Int32).toInt64.toUInt64 &&& Int64.toUInt64 63)).toInt64) &&& 6148914691236517205)).toUInt64 >>> ((2 : Int32).toInt64.toUInt64 &&& Int64.toUInt64 63)).toInt64) &&& 3689348814741910323)) + (((((x0 - (((x0.toUInt64 >>> ((1 : Int32).toInt64.toUInt64 &&& Int64.toUInt64 63)).toInt64) &&& 6148914691236517205)) &&& 3689348814741910323) + ((((x0 - (((x0.toUInt64 >>> ((1 : Int32).toInt64.toUInt64 &&& Int64.toUInt64 63)).toInt64) &&& 6148914691236517205)).toUInt64 >>> ((2 : Int32).toInt64.toUInt64 &&& Int64.toUInt64 63)).toInt64) &&& 3689348814741910323)).toUInt64 >>> ((4 : Int32).toInt64.toUInt64 &&& Int64.toUInt64 63)).toInt64)) &&& 1085102592571150095).toUInt64 >>> ((8 : Int32).toInt64.toUInt64 &&& Int64.toUInt64 63)).toInt64)).toUInt64 >>> ((16 : Int32).toInt64.toUInt64 &&& Int64.toUInt64 63)).toInt64)) + (((((((((x0 - (((x0.toUInt64 >>> ((1 : Int32).toInt64.toUInt64 &&& Int64.toUInt64 63)).toInt64) &&& 6148914691236517205)) &&& 3689348814741910323) + ((((x0 - (((x0.toUInt64 >>> ((1 : Int32).toInt64.toUInt64 &&& Int64.toUInt64 63)).toInt64) &&& 6148914691236517205)).toUInt64 >>> ((2 : Int32).toInt64.toUInt64 &&& Int64.toUInt64 63)).toInt64) &&& 3689348814741910323)) + (((((x0 - (((x0.toUInt64 >>> ((1 : Int32).toInt64.toUInt64 &&& Int64.toUInt64 63)).toInt64) &&& 6148914691236517205)) &&& 3689348814741910323) + ((((x0 - (((x0.toUInt64 >>> ((1 : Int32).toInt64.toUInt64 &&& Int64.toUInt64 63)).toInt64) &&& 6148914691236517205)).toUInt64 >>> ((2 : Int32).toInt64.toUInt64 &&& Int64.toUInt64 63)).toInt64) &&& 3689348814741910323)).toUInt64 >>> ((4 : Int32).toInt64.toUInt64 &&& Int64.toUInt64 63)).toInt64)) &&& 1085102592571150095) + (((((((x0 - (((x0.toUInt64 >>> ((1 : Int32).toInt64.toUInt64 &&& Int64.toUInt64 63)).toInt64) &&& 6148914691236517205)) &&& 3689348814741910323) + ((((x0 - (((x0.toUInt64 >>> ((1 : Int32).toInt64.toUInt64 &&& Int64.toUInt64 63)).toInt64) &&& 6148914691236517205)).toUInt64 >>> ((2 : Int32).toInt64.toUInt64 &&& Int64.toUInt64 63)).toInt64) &&& 3689348814741910323)) + (((((x0 - (((x0.toUInt64 >>> ((1 : Int32).toInt64.toUInt64 &&& Int64.toUInt64 63)).toInt64) &&& 6148914691236517205)) &&& 3689348814741910323) + ((((x0 - (((x0.toUInt64 >>> ((1 : Int32).toInt64.toUInt64 &&& Int64.toUInt64 63)).toInt64) &&& 6148914691236517205)).toUInt64 >>> ((2 : Int32).toInt64.toUInt64 &&& Int64.toUInt64 63)).toInt64) &&& 3689348814741910323)).toUInt64 >>> ((4 : Int32).toInt64.toUInt64 &&& Int64.toUInt64 63)).toInt64)) &&& 1085102592571150095).toUInt64 >>> ((8 : Int32).toInt64.toUInt64 &&& Int64.toUInt64 63)).toInt64)) + ((((((((x0 - (((x0.toUInt64 >>> ((1 : Int32).toInt64.toUInt64 &&& Int64.toUInt64 63)).toInt64) &&& 6148914691236517205)) &&& 3689348814741910323) + ((((x0 - (((x0.toUInt64 >>> ((1 : Int32).toInt64.toUInt64 &&& Int64.toUInt64 63)).toInt64) &&& 6148914691236517205)).toUInt64 >>> ((2 : Int32).toInt64.toUInt64 &&& Int64.toUInt64 63)).toInt64) &&& 3689348814741910323)) + (((((x0 - (((x0.toUInt64 >>> ((1 : Int32).toInt64.toUInt64 &&& Int64.toUInt64 63)).toInt64) &&& 6148914691236517205)) &&& 3689348814741910323) + ((((x0 - (((x0.toUInt64 >>> ((1 : Int32).toInt64.toUInt64 &&& Int64.toUInt64 63)).toInt64) &&& 6148914691236517205)).toUInt64 >>> ((2 : Int32).toInt64.toUInt64 &&& Int64.toUInt64 63)).toInt64) &&& 3689348814741910323)).toUInt64 >>> ((4 : Int32).toInt64.toUInt64 &&& Int64.toUInt64 63)).toInt64)) &&& 1085102592571150095) + (((((((x0 - (((x0.toUInt64 >>> ((1 : Int32).toInt64.toUInt64 &&& Int64.toUInt64 63)).toInt64) &&& 6148914691236517205)) &&& 3689348814741910323) + ((((x0 - (((x0.toUInt64 >>> ((1 : Int32).toInt64.toUInt64 &&& Int64.toUInt64 63)).toInt64) &&& 6148914691236517205)).toUInt64 >>> ((2 : Int32).toInt64.toUInt64 &&& Int64.toUInt64 63)).toInt64) &&& 3689348814741910323)) + (((((x0 - (((x0.toUInt64 >>> ((1 : Int32).toInt64.toUInt64 &&& Int64.toUInt64 63)).toInt64) &&& 6148914691236517205)) &&& 3689348814741910323) + ((((x0 - (((x0.toUInt64 >>> ((1 : Int32).toInt64.toUInt64 &&& Int64.toUInt64 63)).toInt64) &&& 6148914691236517205)).toUInt64 >>> ((2 : Int32).toInt64.toUInt64 &&& Int64.toUInt64 63)).toInt64) &&& 3689348814741910323)).toUInt64 >>> ((4 : Int32).toInt64.toUInt64 &&& Int64.toUInt64 63)).toInt64)) &&& 1085102592571150095).toUInt64 >>> ((8 : Int32).toInt64.toUInt64 &&& Int64.toUInt64 63)).toInt64)).toUInt64 >>> ((16 : Int32).toInt64.toUInt64 &&& Int64.toUInt64 63)).toInt64)).toUInt64 >>> ((32 : Int32).toInt64.toUInt64 &&& Int64.toUInt64 63)).toInt64)))]) hx hb d_jl_bitCount_54 rfl hl (by decide) rfl (fun ls hl => ?_)
  refine lv_lload_n (pc := 55) hx hb d_jl_bitCount_55 rfl (lv_at hl 0 rfl) ?_
  refine lv_l2i (pc := 56) hx hb d_jl_bitCount_56 rfl ?_
  refine lv_bipush (pc := 57) (v := 127) hx hb d_jl_bitCount_57 (by decide) ?_
  refine lv_iand (pc := 59) hx hb d_jl_bitCount_59 ?_
  exact mo_retIr hx hb hr hlocks hQ h d_jl_bitCount_60
set_option maxRecDepth 100000 in
set_option maxHeartbeats 4000000 in
theorem c_dg_fits (l : Launch) (D : va_G) (cI cL cZ : ClassId) (a_this : Nat) (a_past : Nat) (a_future : Nat) (a_blocks : Nat) (a_blues : Nat) (a_scores : Nat) (a_selected : Nat) (a_sequence : Nat) (a_sorted : Nat) (a_blocks_parentCounts : Nat) (a_blocks_parents : Nat) (a_blocks_includedCounts : Nat) (a_blocks_included : Nat) (a_blocks_locks : Nat) (a_blocks_hashes : Nat) (v_k : Int32) (v_members : Int64) (v_tips : Int64) (v_blocks_made : Int32) (f_past : Nat → Int64) (f_future : Nat → Int64) (x1 : Int32) (x2 : Int64) (o : Int32) (h : m_dg_fits v_k v_members f_past f_future v_blocks_made x1 x2 = some o) : Met l y_dg_fits (Cond.code y_dg_fits b_dg_fits 7 (some .boolean) :: WG) rm_dg_fits (va_Pc [.ref a_this, .int x1, .long x2] (mo_Pr D [(cI, .int), (cL, .long), (cZ, .boolean)] [(a_this, .inr (3, [.ref a_blocks, .int v_k, .long v_members, .long v_tips, .ref a_past, .ref a_future, .ref a_blues, .ref a_scores, .ref a_selected, .ref a_sequence, .ref a_sorted])), (a_past, .inl (cL, 61, .inr (.inl f_past))), (a_future, .inl (cL, 60, .inr (.inl f_future))), (a_blocks, .inr (2, [.int v_blocks_made, .ref a_blocks_parentCounts, .ref a_blocks_parents, .ref a_blocks_includedCounts, .ref a_blocks_included, .ref a_blocks_locks, .ref a_blocks_hashes]))])) (mo_Qr (some (.int o))) 0 0 (fun _ => False) := by
  refine mo_start (by decide) (Nat.le_of_ble_eq_true rfl) ?_
  intro p e s m args below meth c hx hb hr hlocks hml hown hw hv ls hl Q hQ
  obtain ⟨hP, hK, hN⟩ := hv
  have hl : lv_has ls 7 [(0, .ref a_this), (1, .int x1), (2, .long x2)] := hl
  unfold m_dg_fits at h
  refine lv_lload_n (pc := 0) hx hb d_dg_fits_0 rfl (lv_at hl 2 rfl) ?_
  refine lv_aload_n (pc := 1) hx hb d_dg_fits_1 rfl (lv_at hl 0 rfl) ?_
  refine lv_iload_n (pc := 2) hx hb d_dg_fits_2 rfl (lv_at hl 1 rfl) ?_
  obtain ⟨r3, hr3, h⟩ := mo_bd_e h
  refine mo_rV (pc := 3) (As := [.int x1]) (rest := [.long x2]) (st1 := [.long r3, .long x2]) ⟨hx, hb, hml, hown, hw⟩ (c_dg_anticone l D cI cL cZ a_this a_past a_future a_blocks a_blues a_scores a_selected a_sequence a_sorted v_k v_members v_tips f_past f_future x1 r3 hr3) (kV_dg_108 hw ⟨by decide, by decide⟩) (hP.sub [0, 1, 2] rfl) hK hN rfl rfl rfl hl.1 rfl rfl d_dg_fits_3 rfl ?_
  refine lv_land (pc := 6) hx hb d_dg_fits_6 ?_
  refine lv_lstore (pc := 7) (lv' := [(4, .long (x2 &&& r3)), (0, .ref a_this), (1, .int x1), (2, .long x2)]) hx hb d_dg_fits_7 hl (by decide) rfl (fun ls hl => ?_)
  refine lv_lload (pc := 9) hx hb d_dg_fits_9 (lv_at hl 0 rfl) ?_
  obtain ⟨r11, hr11, h⟩ := mo_bd_e h
  refine mo_rS (pc := 11) (As := [.long (x2 &&& r3)]) (rest := []) (st1 := [.int r11]) ⟨hx, hb, hml, hown, hw⟩ (c_jl_bitCount l D cI cL cZ (x2 &&& r3) r11 hr11) (kS_dg_46 hw ⟨by decide, by decide⟩) mo_P0 hK hN rfl hl.1 rfl rfl d_dg_fits_11 rfl ?_
  refine lv_aload_n (pc := 14) hx hb d_dg_fits_14 rfl (lv_at hl 1 rfl) ?_
  refine gf_dg_38 (pc := 15) hx hb hw hN hown hK hP 0 rfl rfl d_dg_fits_15 ?_
  refine lv_icmp_le (pc := 18) (tgt := 23) hx hb d_dg_fits_18 rfl (fun hc => ?_) (fun hc => ?_)
  · have h := mo_t hc h
    refine lv_iconst (pc := 23) (v := 0) hx hb d_dg_fits_23 (by decide) ?_
    refine lv_istore (pc := 24) (lv' := [(6, .int 0), (4, .long (x2 &&& r3)), (0, .ref a_this), (1, .int x1), (2, .long x2)]) hx hb d_dg_fits_24 hl (by decide) rfl (fun ls hl => ?_)
    exact mo_lp_i (step := (m_dg_fits_L26 v_k v_members f_past f_future v_blocks_made x2 r3)) (o := o) (fun (z26_6 : Int32) => ∀ (ls : Array Slot) (hl : lv_has ls 7 [(0, .ref a_this), (2, .long x2), (4, .long (x2 &&& r3)), (6, .int z26_6)]), W p l e rm_dg_fits s m args below meth c s.heap [] 0 0 Q (F0 m 26 ls [])) (by
        intro bk26 hb26 z26_6 h ls hl
        unfold m_dg_fits_L26 at h
        try dsimp only at h
        refine lv_iload (pc := 26) hx hb d_dg_fits_26 (lv_at hl 3 rfl) ?_
        refine lv_aload_n (pc := 28) hx hb d_dg_fits_28 rfl (lv_at hl 0 rfl) ?_
        refine gf_dg_34 (pc := 29) hx hb hw hN hown hK hP 0 rfl rfl d_dg_fits_29 ?_
        refine gf_dg_72 (pc := 32) hx hb hw hN hown hK hP 3 rfl rfl d_dg_fits_32 ?_
        refine lv_icmp_ge (pc := 35) (tgt := 74) hx hb d_dg_fits_35 rfl (fun hc => ?_) (fun hc => ?_)
        · have h := mo_t hc h
          refine lv_iconst (pc := 74) (v := 1) hx hb d_dg_fits_74 (by decide) ?_
          exact mo_retZr (mo_nz (by decide)) hx hb hr hlocks hQ h d_dg_fits_75
        · have h := mo_f hc h
          refine lv_lload (pc := 38) hx hb d_dg_fits_38 (lv_at hl 2 rfl) ?_
          refine lv_iload (pc := 40) hx hb d_dg_fits_40 (lv_at hl 3 rfl) ?_
          obtain ⟨r42, hr42, h⟩ := mo_bd_e h
          refine mo_rSN (pc := 42) (As := [.long (x2 &&& r3), .int z26_6]) (rest := []) (st1 := [.int r42]) ⟨hx, hb, hml, hown, hw⟩ (c_bm_holds l D cI cL cZ (x2 &&& r3) z26_6 r42 hr42) (kSN_dg_52 hw hN ⟨by decide, by decide⟩) mo_P0 hK hN rfl hl.1 rfl rfl d_dg_fits_42 rfl ?_
          obtain ⟨j68, ej68, h⟩ := mo_jn_e h
          have B68 : ∀ (ls : Array Slot) (hl : lv_has ls 7 [(0, .ref a_this), (2, .long x2), (4, .long (x2 &&& r3)), (6, .int z26_6)]) (h : j68 = some o), W p l e rm_dg_fits s m args below meth c s.heap [] 0 0 Q (F0 m 68 ls []) := by
            intro ls hl h
            have h := mo_a0 ej68 h
            refine lv_iinc (pc := 68) (k := 3) (v := z26_6 + 1) (lv' := [(6, .int (z26_6 + 1)), (0, .ref a_this), (2, .long x2), (4, .long (x2 &&& r3))]) hx hb d_dg_fits_68 hl rfl (mo_inc1 _) (by decide) rfl (fun ls hl => ?_)
            refine lv_goto (pc := 71) (tgt := 26) hx hb d_dg_fits_71 rfl ?_
            exact hb26 (z26_6 + 1) h _ (lv_sub hl [1, 2, 3, 0] rfl)
          refine lv_if_eq (pc := 45) (tgt := 68) hx hb d_dg_fits_45 rfl (fun hc => ?_) (fun hc => ?_)
          · have h := mo_t hc h
            exact B68 _ (lv_sub hl [0, 1, 2, 3] rfl) h
          · have h := mo_f hc h
            refine lv_lload_n (pc := 48) hx hb d_dg_fits_48 rfl (lv_at hl 1 rfl) ?_
            refine lv_aload_n (pc := 49) hx hb d_dg_fits_49 rfl (lv_at hl 0 rfl) ?_
            refine lv_iload (pc := 50) hx hb d_dg_fits_50 (lv_at hl 3 rfl) ?_
            obtain ⟨r52, hr52, h⟩ := mo_bd_e h
            refine mo_rV (pc := 52) (As := [.int z26_6]) (rest := [.long x2]) (st1 := [.long r52, .long x2]) ⟨hx, hb, hml, hown, hw⟩ (c_dg_anticone l D cI cL cZ a_this a_past a_future a_blocks a_blues a_scores a_selected a_sequence a_sorted v_k v_members v_tips f_past f_future z26_6 r52 hr52) (kV_dg_108 hw ⟨by decide, by decide⟩) (hP.sub [0, 1, 2] rfl) hK hN rfl rfl rfl hl.1 rfl rfl d_dg_fits_52 rfl ?_
            refine lv_land (pc := 55) hx hb d_dg_fits_55 ?_
            obtain ⟨r56, hr56, h⟩ := mo_bd_e h
            refine mo_rS (pc := 56) (As := [.long (x2 &&& r52)]) (rest := []) (st1 := [.int r56]) ⟨hx, hb, hml, hown, hw⟩ (c_jl_bitCount l D cI cL cZ (x2 &&& r52) r56 hr56) (kS_dg_46 hw ⟨by decide, by decide⟩) mo_P0 hK hN rfl hl.1 rfl rfl d_dg_fits_56 rfl ?_
            refine lv_aload_n (pc := 59) hx hb d_dg_fits_59 rfl (lv_at hl 0 rfl) ?_
            refine gf_dg_38 (pc := 60) hx hb hw hN hown hK hP 0 rfl rfl d_dg_fits_60 ?_
            refine lv_icmp_lt (pc := 63) (tgt := 68) hx hb d_dg_fits_63 rfl (fun hc => ?_) (fun hc => ?_)
            · have h := mo_t hc h
              exact B68 _ (lv_sub hl [0, 1, 2, 3] rfl) h
            · have h := mo_f hc h
              refine lv_iconst (pc := 66) (v := 0) hx hb d_dg_fits_66 (by decide) ?_
              exact mo_retZr (mo_nz (by decide)) hx hb hr hlocks hQ h d_dg_fits_67
      ) _ _ h _ (lv_sub hl [2, 4, 1, 0] rfl)
  · have h := mo_f hc h
    refine lv_iconst (pc := 21) (v := 0) hx hb d_dg_fits_21 (by decide) ?_
    exact mo_retZr (mo_nz (by decide)) hx hb hr hlocks hQ h d_dg_fits_22
set_option maxRecDepth 100000 in
set_option maxHeartbeats 4000000 in
theorem c_dg_settle (l : Launch) (D : va_G) (cI cL cZ : ClassId) (a_this : Nat) (a_blocks : Nat) (a_scores : Nat) (a_blocks_hashes : Nat) (a_selected : Nat) (a_past : Nat) (a_blues : Nat) (a_sorted : Nat) (a_future : Nat) (a_sequence : Nat) (a_blocks_parentCounts : Nat) (a_blocks_parents : Nat) (a_blocks_includedCounts : Nat) (a_blocks_included : Nat) (a_blocks_locks : Nat) (v_k : Int32) (v_members : Int64) (v_tips : Int64) (v_blocks_made : Int32) (f_scores : Nat → Int32) (f_blocks_hashes : Nat → Int32) (f_selected : Nat → Int32) (f_past : Nat → Int64) (f_blues : Nat → Int64) (f_sorted : Nat → Int32) (f_future : Nat → Int64) (x1 : Int32) (x2 : Int64) (o : (Nat → Int32) × (Nat → Int32) × (Nat → Int64) × (Nat → Int64) × (Nat → Int32)) (h : m_dg_settle v_k v_members v_blocks_made f_scores f_blocks_hashes f_selected f_past f_blues f_sorted f_future x1 x2 = some o) : Met l y_dg_settle (Cond.code y_dg_settle b_dg_settle 9 none :: WG) rm_dg_settle (va_Pc [.ref a_this, .int x1, .long x2] (mo_Pm D [(cI, .int), (cL, .long), (cZ, .boolean)] [(a_this, .inr (3, [.ref a_blocks, .int v_k, .long v_members, .long v_tips, .ref a_past, .ref a_future, .ref a_blues, .ref a_scores, .ref a_selected, .ref a_sequence, .ref a_sorted])), (a_blocks, .inr (2, [.int v_blocks_made, .ref a_blocks_parentCounts, .ref a_blocks_parents, .ref a_blocks_includedCounts, .ref a_blocks_included, .ref a_blocks_locks, .ref a_blocks_hashes])), (a_scores, .inl (cI, 61, .inl f_scores)), (a_blocks_hashes, .inl (cI, 60, .inl f_blocks_hashes)), (a_selected, .inl (cI, 61, .inl f_selected)), (a_past, .inl (cL, 61, .inr (.inl f_past))), (a_blues, .inl (cL, 61, .inr (.inl f_blues))), (a_sorted, .inl (cI, 60, .inl f_sorted)), (a_future, .inl (cL, 60, .inr (.inl f_future)))])) (mo_Qm D [(a_this, .inr (3, [.ref a_blocks, .int v_k, .long v_members, .long v_tips, .ref a_past, .ref a_future, .ref a_blues, .ref a_scores, .ref a_selected, .ref a_sequence, .ref a_sorted])), (a_blocks, .inr (2, [.int v_blocks_made, .ref a_blocks_parentCounts, .ref a_blocks_parents, .ref a_blocks_includedCounts, .ref a_blocks_included, .ref a_blocks_locks, .ref a_blocks_hashes])), (a_scores, .inl (cI, 61, .inl f_scores)), (a_blocks_hashes, .inl (cI, 60, .inl f_blocks_hashes)), (a_selected, .inl (cI, 61, .inl f_selected)), (a_past, .inl (cL, 61, .inr (.inl f_past))), (a_blues, .inl (cL, 61, .inr (.inl f_blues))), (a_sorted, .inl (cI, 60, .inl f_sorted)), (a_future, .inl (cL, 60, .inr (.inl f_future)))] (fun (o : (Nat → Int32) × (Nat → Int32) × (Nat → Int64) × (Nat → Int64) × (Nat → Int32)) => [(a_this, .inr (3, [.ref a_blocks, .int v_k, .long v_members, .long v_tips, .ref a_past, .ref a_future, .ref a_blues, .ref a_scores, .ref a_selected, .ref a_sequence, .ref a_sorted])), (a_blocks, .inr (2, [.int v_blocks_made, .ref a_blocks_parentCounts, .ref a_blocks_parents, .ref a_blocks_includedCounts, .ref a_blocks_included, .ref a_blocks_locks, .ref a_blocks_hashes])), (a_scores, .inl (cI, 61, .inl o.1)), (a_blocks_hashes, .inl (cI, 60, .inl f_blocks_hashes)), (a_selected, .inl (cI, 61, .inl o.2.1)), (a_past, .inl (cL, 61, .inr (.inl o.2.2.1))), (a_blues, .inl (cL, 61, .inr (.inl o.2.2.2.1))), (a_sorted, .inl (cI, 60, .inl o.2.2.2.2)), (a_future, .inl (cL, 60, .inr (.inl f_future)))]) (fun (o : (Nat → Int32) × (Nat → Int32) × (Nat → Int64) × (Nat → Int64) × (Nat → Int32)) => none) o) 0 0 (mo_A [(a_this, .inr (3, [.ref a_blocks, .int v_k, .long v_members, .long v_tips, .ref a_past, .ref a_future, .ref a_blues, .ref a_scores, .ref a_selected, .ref a_sequence, .ref a_sorted])), (a_blocks, .inr (2, [.int v_blocks_made, .ref a_blocks_parentCounts, .ref a_blocks_parents, .ref a_blocks_includedCounts, .ref a_blocks_included, .ref a_blocks_locks, .ref a_blocks_hashes])), (a_scores, .inl (cI, 61, .inl f_scores)), (a_blocks_hashes, .inl (cI, 60, .inl f_blocks_hashes)), (a_selected, .inl (cI, 61, .inl f_selected)), (a_past, .inl (cL, 61, .inr (.inl f_past))), (a_blues, .inl (cL, 61, .inr (.inl f_blues))), (a_sorted, .inl (cI, 60, .inl f_sorted)), (a_future, .inl (cL, 60, .inr (.inl f_future)))]) := by
  refine mo_start (by decide) (Nat.le_of_ble_eq_true rfl) ?_
  intro p e s m args below meth c hx hb hr hlocks hml hown hw hv ls hl Q hQ
  obtain ⟨hP, hK, hN, hD0⟩ := hv
  have hl : lv_has ls 9 [(0, .ref a_this), (1, .int x1), (2, .long x2)] := hl
  obtain ⟨A, hA2⟩ : ∃ A, A = mo_A [(a_this, .inr (3, [.ref a_blocks, .int v_k, .long v_members, .long v_tips, .ref a_past, .ref a_future, .ref a_blues, .ref a_scores, .ref a_selected, .ref a_sequence, .ref a_sorted])), (a_blocks, .inr (2, [.int v_blocks_made, .ref a_blocks_parentCounts, .ref a_blocks_parents, .ref a_blocks_includedCounts, .ref a_blocks_included, .ref a_blocks_locks, .ref a_blocks_hashes])), (a_scores, .inl (cI, 61, .inl f_scores)), (a_blocks_hashes, .inl (cI, 60, .inl f_blocks_hashes)), (a_selected, .inl (cI, 61, .inl f_selected)), (a_past, .inl (cL, 61, .inr (.inl f_past))), (a_blues, .inl (cL, 61, .inr (.inl f_blues))), (a_sorted, .inl (cI, 60, .inl f_sorted)), (a_future, .inl (cL, 60, .inr (.inl f_future)))] := ⟨_, rfl⟩
  have hD : va_D A [(a_this, .inr (3, [.ref a_blocks, .int v_k, .long v_members, .long v_tips, .ref a_past, .ref a_future, .ref a_blues, .ref a_scores, .ref a_selected, .ref a_sequence, .ref a_sorted])), (a_blocks, .inr (2, [.int v_blocks_made, .ref a_blocks_parentCounts, .ref a_blocks_parents, .ref a_blocks_includedCounts, .ref a_blocks_included, .ref a_blocks_locks, .ref a_blocks_hashes])), (a_scores, .inl (cI, 61, .inl f_scores)), (a_blocks_hashes, .inl (cI, 60, .inl f_blocks_hashes)), (a_selected, .inl (cI, 61, .inl f_selected)), (a_past, .inl (cL, 61, .inr (.inl f_past))), (a_blues, .inl (cL, 61, .inr (.inl f_blues))), (a_sorted, .inl (cI, 60, .inl f_sorted)), (a_future, .inl (cL, 60, .inr (.inl f_future)))] := hA2 ▸ mo_self hD0
  have hS : va_S A s.heap s.heap [] := va_S.rf
  unfold m_dg_settle at h
  refine lv_aload_n (pc := 0) hx hb d_dg_settle_0 rfl (lv_at hl 0 rfl) ?_
  refine lv_lload_n (pc := 1) hx hb d_dg_settle_1 rfl (lv_at hl 2 rfl) ?_
  obtain ⟨r2, hr2, h⟩ := mo_bd_e h
  refine mo_rV (pc := 2) (As := [.long x2]) (rest := []) (st1 := [.int r2]) ⟨hx, hb, hml, hown, hw⟩ (c_dg_heaviest l D cI cL cZ a_this a_blocks a_scores a_blocks_hashes a_past a_future a_blues a_selected a_sequence a_sorted a_blocks_parentCounts a_blocks_parents a_blocks_includedCounts a_blocks_included a_blocks_locks v_k v_members v_tips v_blocks_made f_scores f_blocks_hashes x2 r2 hr2) (kV_dg_101 hw ⟨by decide, by decide⟩) (hP.sub [0, 1, 2, 3] rfl) hK hN rfl rfl rfl hl.1 rfl rfl d_dg_settle_2 rfl ?_
  refine lv_istore (pc := 5) (lv' := [(4, .int r2), (0, .ref a_this), (1, .int x1), (2, .long x2)]) hx hb d_dg_settle_5 hl (by decide) rfl (fun ls hl => ?_)
  refine lv_aload_n (pc := 7) hx hb d_dg_settle_7 rfl (lv_at hl 1 rfl) ?_
  refine gf_dg_25 (pc := 8) hx hb hw hN hown hK hP 0 rfl rfl d_dg_settle_8 ?_
  refine lv_iload_n (pc := 11) hx hb d_dg_settle_11 rfl (lv_at hl 2 rfl) ?_
  refine lv_iload (pc := 12) hx hb d_dg_settle_12 (lv_at hl 0 rfl) ?_
  obtain ⟨g14, hi14, e14, h⟩ := mo_wI_e h
  refine mo_iast (pc := 14) hx hb hK hP hD hS 4 0 rfl rfl hi14 e14 d_dg_settle_14 (fun H locs hP hD hS => ?_)
  have hP : va_P D cl [(a_this, .inr (3, [.ref a_blocks, .int v_k, .long v_members, .long v_tips, .ref a_past, .ref a_future, .ref a_blues, .ref a_scores, .ref a_selected, .ref a_sequence, .ref a_sorted])), (a_blocks, .inr (2, [.int v_blocks_made, .ref a_blocks_parentCounts, .ref a_blocks_parents, .ref a_blocks_includedCounts, .ref a_blocks_included, .ref a_blocks_locks, .ref a_blocks_hashes])), (a_scores, .inl (cI, 61, .inl f_scores)), (a_blocks_hashes, .inl (cI, 60, .inl f_blocks_hashes)), (a_selected, .inl (cI, 61, .inl g14)), (a_past, .inl (cL, 61, .inr (.inl f_past))), (a_blues, .inl (cL, 61, .inr (.inl f_blues))), (a_sorted, .inl (cI, 60, .inl f_sorted)), (a_future, .inl (cL, 60, .inr (.inl f_future)))] H := hP
  have hD : va_D A [(a_this, .inr (3, [.ref a_blocks, .int v_k, .long v_members, .long v_tips, .ref a_past, .ref a_future, .ref a_blues, .ref a_scores, .ref a_selected, .ref a_sequence, .ref a_sorted])), (a_blocks, .inr (2, [.int v_blocks_made, .ref a_blocks_parentCounts, .ref a_blocks_parents, .ref a_blocks_includedCounts, .ref a_blocks_included, .ref a_blocks_locks, .ref a_blocks_hashes])), (a_scores, .inl (cI, 61, .inl f_scores)), (a_blocks_hashes, .inl (cI, 60, .inl f_blocks_hashes)), (a_selected, .inl (cI, 61, .inl g14)), (a_past, .inl (cL, 61, .inr (.inl f_past))), (a_blues, .inl (cL, 61, .inr (.inl f_blues))), (a_sorted, .inl (cI, 60, .inl f_sorted)), (a_future, .inl (cL, 60, .inr (.inl f_future)))] := hD
  refine lv_iload (pc := 15) hx hb d_dg_settle_15 (lv_at hl 0 rfl) ?_
  refine lv_iconst (pc := 17) (v := (-1)) hx hb d_dg_settle_17 (by decide) ?_
  refine lv_icmp_ne (pc := 18) (tgt := 22) hx hb d_dg_settle_18 rfl (fun hc => ?_) (fun hc => ?_)
  · have h := mo_f hc h
    refine lv_aload_n (pc := 22) hx hb d_dg_settle_22 rfl (lv_at hl 1 rfl) ?_
    refine gf_dg_9 (pc := 23) hx hb hw hN hown hK hP 0 rfl rfl d_dg_settle_23 ?_
    refine lv_iload_n (pc := 26) hx hb d_dg_settle_26 rfl (lv_at hl 2 rfl) ?_
    refine lv_lload_n (pc := 27) hx hb d_dg_settle_27 rfl (lv_at hl 3 rfl) ?_
    refine lv_aload_n (pc := 28) hx hb d_dg_settle_28 rfl (lv_at hl 1 rfl) ?_
    refine lv_lload_n (pc := 29) hx hb d_dg_settle_29 rfl (lv_at hl 3 rfl) ?_
    obtain ⟨r30, hr30, h⟩ := mo_bd_e h
    refine mo_rV (pc := 30) (As := [.long x2]) (rest := [.long x2, .int x1, .ref a_past]) (st1 := [.long r30, .long x2, .int x1, .ref a_past]) ⟨hx, hb, hml, hown, hw⟩ (c_dg_pastOf l D cI cL cZ a_this a_blocks a_past a_future a_blues a_scores a_selected a_sequence a_sorted a_blocks_parentCounts a_blocks_parents a_blocks_includedCounts a_blocks_included a_blocks_locks a_blocks_hashes v_k v_members v_tips v_blocks_made f_past x2 r30 hr30) (kV_dg_64 hw ⟨by decide, by decide⟩) (hP.sub [0, 1, 5] rfl) hK hN rfl rfl rfl hl.1 rfl rfl d_dg_settle_30 rfl ?_
    refine lv_lor (pc := 33) hx hb d_dg_settle_33 ?_
    obtain ⟨g34, hi34, e34, h⟩ := mo_wL_e h
    refine mo_last (pc := 34) hx hb hK hP hD hS 5 1 rfl rfl hi34 e34 d_dg_settle_34 (fun H locs hP hD hS => ?_)
    have hP : va_P D cl [(a_this, .inr (3, [.ref a_blocks, .int v_k, .long v_members, .long v_tips, .ref a_past, .ref a_future, .ref a_blues, .ref a_scores, .ref a_selected, .ref a_sequence, .ref a_sorted])), (a_blocks, .inr (2, [.int v_blocks_made, .ref a_blocks_parentCounts, .ref a_blocks_parents, .ref a_blocks_includedCounts, .ref a_blocks_included, .ref a_blocks_locks, .ref a_blocks_hashes])), (a_scores, .inl (cI, 61, .inl f_scores)), (a_blocks_hashes, .inl (cI, 60, .inl f_blocks_hashes)), (a_selected, .inl (cI, 61, .inl g14)), (a_past, .inl (cL, 61, .inr (.inl g34))), (a_blues, .inl (cL, 61, .inr (.inl f_blues))), (a_sorted, .inl (cI, 60, .inl f_sorted)), (a_future, .inl (cL, 60, .inr (.inl f_future)))] H := hP
    have hD : va_D A [(a_this, .inr (3, [.ref a_blocks, .int v_k, .long v_members, .long v_tips, .ref a_past, .ref a_future, .ref a_blues, .ref a_scores, .ref a_selected, .ref a_sequence, .ref a_sorted])), (a_blocks, .inr (2, [.int v_blocks_made, .ref a_blocks_parentCounts, .ref a_blocks_parents, .ref a_blocks_includedCounts, .ref a_blocks_included, .ref a_blocks_locks, .ref a_blocks_hashes])), (a_scores, .inl (cI, 61, .inl f_scores)), (a_blocks_hashes, .inl (cI, 60, .inl f_blocks_hashes)), (a_selected, .inl (cI, 61, .inl g14)), (a_past, .inl (cL, 61, .inr (.inl g34))), (a_blues, .inl (cL, 61, .inr (.inl f_blues))), (a_sorted, .inl (cI, 60, .inl f_sorted)), (a_future, .inl (cL, 60, .inr (.inl f_future)))] := hD
    refine lv_aload_n (pc := 35) hx hb d_dg_settle_35 rfl (lv_at hl 1 rfl) ?_
    refine gf_dg_18 (pc := 36) hx hb hw hN hown hK hP 0 rfl rfl d_dg_settle_36 ?_
    refine lv_iload (pc := 39) hx hb d_dg_settle_39 (lv_at hl 0 rfl) ?_
    obtain ⟨v41, hi41, e41, h⟩ := mo_rL_e h
    refine mo_lald (pc := 41) hx hb hK hP 6 1 rfl rfl hi41 e41 d_dg_settle_41 ?_
    refine lv_iload (pc := 42) hx hb d_dg_settle_42 (lv_at hl 0 rfl) ?_
    obtain ⟨r44, hr44, h⟩ := mo_bd_e h
    refine mo_rSN (pc := 44) (As := [.int r2]) (rest := [.long v41]) (st1 := [.long r44, .long v41]) ⟨hx, hb, hml, hown, hw⟩ (c_bm_bit l D cI cL cZ r2 r44 hr44) (kSN_dg_79 hw hN ⟨by decide, by decide⟩) mo_P0 hK hN rfl hl.1 rfl rfl d_dg_settle_44 rfl ?_
    refine lv_lor (pc := 47) hx hb d_dg_settle_47 ?_
    refine lv_lstore (pc := 48) (lv' := [(5, .long (v41 ||| r44)), (4, .int r2), (0, .ref a_this), (1, .int x1), (2, .long x2)]) hx hb d_dg_settle_48 hl (by decide) rfl (fun ls hl => ?_)
    refine lv_aload_n (pc := 50) hx hb d_dg_settle_50 rfl (lv_at hl 2 rfl) ?_
    refine lv_aload_n (pc := 51) hx hb d_dg_settle_51 rfl (lv_at hl 2 rfl) ?_
    refine lv_iload_n (pc := 52) hx hb d_dg_settle_52 rfl (lv_at hl 3 rfl) ?_
    obtain ⟨r53, hr53, h⟩ := mo_bd_e h
    refine mo_rV (pc := 53) (As := [.int x1]) (rest := [.ref a_this]) (st1 := [.long r53, .ref a_this]) ⟨hx, hb, hml, hown, hw⟩ (c_dg_mergedBy l D cI cL cZ a_this a_selected a_past a_blocks a_future a_blues a_scores a_sequence a_sorted v_k v_members v_tips g14 g34 x1 r53 hr53) (kV_dg_89 hw ⟨by decide, by decide⟩) (hP.sub [0, 4, 5] rfl) hK hN rfl rfl rfl hl.1 rfl rfl d_dg_settle_53 rfl ?_
    obtain ⟨⟨r56, r56_0⟩, hr56, h⟩ := mo_bd_e h
    try dsimp only at h
    refine mo_mV (pc := 56) (As := [.long r53]) (rest := []) (st1 := [.int r56]) ⟨hx, hb, hml, hown, hw⟩ (c_dg_sortByScore l D cI cL cZ a_this a_blocks a_sorted a_scores a_blocks_hashes a_past a_future a_blues a_selected a_sequence a_blocks_parentCounts a_blocks_parents a_blocks_includedCounts a_blocks_included a_blocks_locks v_k v_members v_tips v_blocks_made f_sorted f_scores f_blocks_hashes r53 (r56, r56_0) hr56) (kV_dg_92 hw ⟨by decide, by decide⟩) hP hD hS hK hN [0, 1, 7, 2, 3] [some 0, some 1, some 3, some 4, none, none, none, some 2, none] rfl rfl rfl rfl rfl rfl rfl hl.1 rfl rfl d_dg_settle_56 rfl (fun H locs hP hD hS => ?_)
    have hP : va_P D cl [(a_this, .inr (3, [.ref a_blocks, .int v_k, .long v_members, .long v_tips, .ref a_past, .ref a_future, .ref a_blues, .ref a_scores, .ref a_selected, .ref a_sequence, .ref a_sorted])), (a_blocks, .inr (2, [.int v_blocks_made, .ref a_blocks_parentCounts, .ref a_blocks_parents, .ref a_blocks_includedCounts, .ref a_blocks_included, .ref a_blocks_locks, .ref a_blocks_hashes])), (a_scores, .inl (cI, 61, .inl f_scores)), (a_blocks_hashes, .inl (cI, 60, .inl f_blocks_hashes)), (a_selected, .inl (cI, 61, .inl g14)), (a_past, .inl (cL, 61, .inr (.inl g34))), (a_blues, .inl (cL, 61, .inr (.inl f_blues))), (a_sorted, .inl (cI, 60, .inl r56_0)), (a_future, .inl (cL, 60, .inr (.inl f_future)))] H := hP
    have hD : va_D A [(a_this, .inr (3, [.ref a_blocks, .int v_k, .long v_members, .long v_tips, .ref a_past, .ref a_future, .ref a_blues, .ref a_scores, .ref a_selected, .ref a_sequence, .ref a_sorted])), (a_blocks, .inr (2, [.int v_blocks_made, .ref a_blocks_parentCounts, .ref a_blocks_parents, .ref a_blocks_includedCounts, .ref a_blocks_included, .ref a_blocks_locks, .ref a_blocks_hashes])), (a_scores, .inl (cI, 61, .inl f_scores)), (a_blocks_hashes, .inl (cI, 60, .inl f_blocks_hashes)), (a_selected, .inl (cI, 61, .inl g14)), (a_past, .inl (cL, 61, .inr (.inl g34))), (a_blues, .inl (cL, 61, .inr (.inl f_blues))), (a_sorted, .inl (cI, 60, .inl r56_0)), (a_future, .inl (cL, 60, .inr (.inl f_future)))] := hD
    refine lv_istore (pc := 59) (lv' := [(7, .int r56), (5, .long (v41 ||| r44)), (4, .int r2), (0, .ref a_this), (1, .int x1), (2, .long x2)]) hx hb d_dg_settle_59 hl (by decide) rfl (fun ls hl => ?_)
    refine lv_iconst (pc := 61) (v := 0) hx hb d_dg_settle_61 (by decide) ?_
    refine lv_istore (pc := 62) (lv' := [(8, .int 0), (7, .int r56), (5, .long (v41 ||| r44)), (4, .int r2), (0, .ref a_this), (1, .int x1), (2, .long x2)]) hx hb d_dg_settle_62 hl (by decide) rfl (fun ls hl => ?_)
    obtain ⟨w64, K64, eK64, hy64, hr64⟩ := mo_bd_k h
    have E64 : ∀ (y64_5 : Int64) (ls : Array Slot) (H : Heap) (locs : List Loc) (hP : va_P D cl [(a_this, .inr (3, [.ref a_blocks, .int v_k, .long v_members, .long v_tips, .ref a_past, .ref a_future, .ref a_blues, .ref a_scores, .ref a_selected, .ref a_sequence, .ref a_sorted])), (a_blocks, .inr (2, [.int v_blocks_made, .ref a_blocks_parentCounts, .ref a_blocks_parents, .ref a_blocks_includedCounts, .ref a_blocks_included, .ref a_blocks_locks, .ref a_blocks_hashes])), (a_scores, .inl (cI, 61, .inl f_scores)), (a_blocks_hashes, .inl (cI, 60, .inl f_blocks_hashes)), (a_selected, .inl (cI, 61, .inl g14)), (a_past, .inl (cL, 61, .inr (.inl g34))), (a_blues, .inl (cL, 61, .inr (.inl f_blues))), (a_sorted, .inl (cI, 60, .inl r56_0)), (a_future, .inl (cL, 60, .inr (.inl f_future)))] H) (hD : va_D A [(a_this, .inr (3, [.ref a_blocks, .int v_k, .long v_members, .long v_tips, .ref a_past, .ref a_future, .ref a_blues, .ref a_scores, .ref a_selected, .ref a_sequence, .ref a_sorted])), (a_blocks, .inr (2, [.int v_blocks_made, .ref a_blocks_parentCounts, .ref a_blocks_parents, .ref a_blocks_includedCounts, .ref a_blocks_included, .ref a_blocks_locks, .ref a_blocks_hashes])), (a_scores, .inl (cI, 61, .inl f_scores)), (a_blocks_hashes, .inl (cI, 60, .inl f_blocks_hashes)), (a_selected, .inl (cI, 61, .inl g14)), (a_past, .inl (cL, 61, .inr (.inl g34))), (a_blues, .inl (cL, 61, .inr (.inl f_blues))), (a_sorted, .inl (cI, 60, .inl r56_0)), (a_future, .inl (cL, 60, .inr (.inl f_future)))]) (hS : va_S A s.heap H locs) (hl : lv_has ls 9 [(0, .ref a_this), (1, .int x1), (5, .long y64_5)]) (h : K64 y64_5 = some o), W p l e rm_dg_settle s m args below meth c H locs 0 0 Q (F0 m 108 ls []) := by
      intro y64_5 ls H locs hP hD hS hl h
      have h := mo_a1 eK64 h
      try dsimp only at h
      refine lv_aload_n (pc := 108) hx hb d_dg_settle_108 rfl (lv_at hl 0 rfl) ?_
      refine gf_dg_18 (pc := 109) hx hb hw hN hown hK hP 0 rfl rfl d_dg_settle_109 ?_
      refine lv_iload_n (pc := 112) hx hb d_dg_settle_112 rfl (lv_at hl 1 rfl) ?_
      refine lv_lload (pc := 113) hx hb d_dg_settle_113 (lv_at hl 2 rfl) ?_
      obtain ⟨g115, hi115, e115, h⟩ := mo_wL_e h
      refine mo_last (pc := 115) hx hb hK hP hD hS 6 1 rfl rfl hi115 e115 d_dg_settle_115 (fun H locs hP hD hS => ?_)
      have hP : va_P D cl [(a_this, .inr (3, [.ref a_blocks, .int v_k, .long v_members, .long v_tips, .ref a_past, .ref a_future, .ref a_blues, .ref a_scores, .ref a_selected, .ref a_sequence, .ref a_sorted])), (a_blocks, .inr (2, [.int v_blocks_made, .ref a_blocks_parentCounts, .ref a_blocks_parents, .ref a_blocks_includedCounts, .ref a_blocks_included, .ref a_blocks_locks, .ref a_blocks_hashes])), (a_scores, .inl (cI, 61, .inl f_scores)), (a_blocks_hashes, .inl (cI, 60, .inl f_blocks_hashes)), (a_selected, .inl (cI, 61, .inl g14)), (a_past, .inl (cL, 61, .inr (.inl g34))), (a_blues, .inl (cL, 61, .inr (.inl g115))), (a_sorted, .inl (cI, 60, .inl r56_0)), (a_future, .inl (cL, 60, .inr (.inl f_future)))] H := hP
      have hD : va_D A [(a_this, .inr (3, [.ref a_blocks, .int v_k, .long v_members, .long v_tips, .ref a_past, .ref a_future, .ref a_blues, .ref a_scores, .ref a_selected, .ref a_sequence, .ref a_sorted])), (a_blocks, .inr (2, [.int v_blocks_made, .ref a_blocks_parentCounts, .ref a_blocks_parents, .ref a_blocks_includedCounts, .ref a_blocks_included, .ref a_blocks_locks, .ref a_blocks_hashes])), (a_scores, .inl (cI, 61, .inl f_scores)), (a_blocks_hashes, .inl (cI, 60, .inl f_blocks_hashes)), (a_selected, .inl (cI, 61, .inl g14)), (a_past, .inl (cL, 61, .inr (.inl g34))), (a_blues, .inl (cL, 61, .inr (.inl g115))), (a_sorted, .inl (cI, 60, .inl r56_0)), (a_future, .inl (cL, 60, .inr (.inl f_future)))] := hD
      refine lv_aload_n (pc := 116) hx hb d_dg_settle_116 rfl (lv_at hl 0 rfl) ?_
      refine gf_dg_21 (pc := 117) hx hb hw hN hown hK hP 0 rfl rfl d_dg_settle_117 ?_
      refine lv_iload_n (pc := 120) hx hb d_dg_settle_120 rfl (lv_at hl 1 rfl) ?_
      refine lv_lload (pc := 121) hx hb d_dg_settle_121 (lv_at hl 2 rfl) ?_
      obtain ⟨r123, hr123, h⟩ := mo_bd_e h
      refine mo_rS (pc := 123) (As := [.long y64_5]) (rest := [.int x1, .ref a_scores]) (st1 := [.int r123, .int x1, .ref a_scores]) ⟨hx, hb, hml, hown, hw⟩ (c_jl_bitCount l D cI cL cZ y64_5 r123 hr123) (kS_dg_46 hw ⟨by decide, by decide⟩) mo_P0 hK hN rfl hl.1 rfl rfl d_dg_settle_123 rfl ?_
      obtain ⟨g126, hi126, e126, h⟩ := mo_wI_e h
      refine mo_iast (pc := 126) hx hb hK hP hD hS 2 0 rfl rfl hi126 e126 d_dg_settle_126 (fun H locs hP hD hS => ?_)
      have hP : va_P D cl [(a_this, .inr (3, [.ref a_blocks, .int v_k, .long v_members, .long v_tips, .ref a_past, .ref a_future, .ref a_blues, .ref a_scores, .ref a_selected, .ref a_sequence, .ref a_sorted])), (a_blocks, .inr (2, [.int v_blocks_made, .ref a_blocks_parentCounts, .ref a_blocks_parents, .ref a_blocks_includedCounts, .ref a_blocks_included, .ref a_blocks_locks, .ref a_blocks_hashes])), (a_scores, .inl (cI, 61, .inl g126)), (a_blocks_hashes, .inl (cI, 60, .inl f_blocks_hashes)), (a_selected, .inl (cI, 61, .inl g14)), (a_past, .inl (cL, 61, .inr (.inl g34))), (a_blues, .inl (cL, 61, .inr (.inl g115))), (a_sorted, .inl (cI, 60, .inl r56_0)), (a_future, .inl (cL, 60, .inr (.inl f_future)))] H := hP
      have hD : va_D A [(a_this, .inr (3, [.ref a_blocks, .int v_k, .long v_members, .long v_tips, .ref a_past, .ref a_future, .ref a_blues, .ref a_scores, .ref a_selected, .ref a_sequence, .ref a_sorted])), (a_blocks, .inr (2, [.int v_blocks_made, .ref a_blocks_parentCounts, .ref a_blocks_parents, .ref a_blocks_includedCounts, .ref a_blocks_included, .ref a_blocks_locks, .ref a_blocks_hashes])), (a_scores, .inl (cI, 61, .inl g126)), (a_blocks_hashes, .inl (cI, 60, .inl f_blocks_hashes)), (a_selected, .inl (cI, 61, .inl g14)), (a_past, .inl (cL, 61, .inr (.inl g34))), (a_blues, .inl (cL, 61, .inr (.inl g115))), (a_sorted, .inl (cI, 60, .inl r56_0)), (a_future, .inl (cL, 60, .inr (.inl f_future)))] := hD
      exact mo_retVm hx hb hr hlocks hQ hA2 h hP hS d_dg_settle_127 rfl
    exact mo_lp_i (step := (m_dg_settle_L64 v_k v_members v_blocks_made f_future g34 r56 r56_0)) (o := w64) (fun (x : Int64 × Int32) => match x with | (z64_5, z64_8) => ∀ (ls : Array Slot) (H : Heap) (locs : List Loc) (hP : va_P D cl [(a_this, .inr (3, [.ref a_blocks, .int v_k, .long v_members, .long v_tips, .ref a_past, .ref a_future, .ref a_blues, .ref a_scores, .ref a_selected, .ref a_sequence, .ref a_sorted])), (a_blocks, .inr (2, [.int v_blocks_made, .ref a_blocks_parentCounts, .ref a_blocks_parents, .ref a_blocks_includedCounts, .ref a_blocks_included, .ref a_blocks_locks, .ref a_blocks_hashes])), (a_scores, .inl (cI, 61, .inl f_scores)), (a_blocks_hashes, .inl (cI, 60, .inl f_blocks_hashes)), (a_selected, .inl (cI, 61, .inl g14)), (a_past, .inl (cL, 61, .inr (.inl g34))), (a_blues, .inl (cL, 61, .inr (.inl f_blues))), (a_sorted, .inl (cI, 60, .inl r56_0)), (a_future, .inl (cL, 60, .inr (.inl f_future)))] H) (hD : va_D A [(a_this, .inr (3, [.ref a_blocks, .int v_k, .long v_members, .long v_tips, .ref a_past, .ref a_future, .ref a_blues, .ref a_scores, .ref a_selected, .ref a_sequence, .ref a_sorted])), (a_blocks, .inr (2, [.int v_blocks_made, .ref a_blocks_parentCounts, .ref a_blocks_parents, .ref a_blocks_includedCounts, .ref a_blocks_included, .ref a_blocks_locks, .ref a_blocks_hashes])), (a_scores, .inl (cI, 61, .inl f_scores)), (a_blocks_hashes, .inl (cI, 60, .inl f_blocks_hashes)), (a_selected, .inl (cI, 61, .inl g14)), (a_past, .inl (cL, 61, .inr (.inl g34))), (a_blues, .inl (cL, 61, .inr (.inl f_blues))), (a_sorted, .inl (cI, 60, .inl r56_0)), (a_future, .inl (cL, 60, .inr (.inl f_future)))]) (hS : va_S A s.heap H locs) (hl : lv_has ls 9 [(0, .ref a_this), (1, .int x1), (5, .long z64_5), (7, .int r56), (8, .int z64_8)]), W p l e rm_dg_settle s m args below meth c H locs 0 0 Q (F0 m 64 ls [])) (by
        rintro bk64 hb64 ⟨z64_5, z64_8⟩ h ls H locs hP hD hS hl
        unfold m_dg_settle_L64 at h
        try dsimp only at h
        refine lv_iload (pc := 64) hx hb d_dg_settle_64 (lv_at hl 4 rfl) ?_
        refine lv_iload (pc := 66) hx hb d_dg_settle_66 (lv_at hl 3 rfl) ?_
        refine lv_icmp_ge (pc := 68) (tgt := 108) hx hb d_dg_settle_68 rfl (fun hc => ?_) (fun hc => ?_)
        · have h := mo_t hc h
          exact E64 z64_5 _ _ _ hP hD hS (lv_sub hl [0, 1, 2] rfl) (by rw [Option.some.inj h]; exact hr64)
        · have h := mo_f hc h
          refine lv_aload_n (pc := 71) hx hb d_dg_settle_71 rfl (lv_at hl 0 rfl) ?_
          refine lv_aload_n (pc := 72) hx hb d_dg_settle_72 rfl (lv_at hl 0 rfl) ?_
          refine gf_dg_31 (pc := 73) hx hb hw hN hown hK hP 0 rfl rfl d_dg_settle_73 ?_
          refine lv_iload (pc := 76) hx hb d_dg_settle_76 (lv_at hl 4 rfl) ?_
          obtain ⟨v78, hi78, e78, h⟩ := mo_rI_e h
          refine mo_iald (pc := 78) hx hb hK hP 7 0 rfl rfl hi78 e78 d_dg_settle_78 ?_
          refine lv_lload (pc := 79) hx hb d_dg_settle_79 (lv_at hl 2 rfl) ?_
          obtain ⟨r81, hr81, h⟩ := mo_bd_e h
          refine mo_rV (pc := 81) (As := [.int v78, .long z64_5]) (rest := []) (st1 := [.int r81]) ⟨hx, hb, hml, hown, hw⟩ (c_dg_fits l D cI cL cZ a_this a_past a_future a_blocks a_blues a_scores a_selected a_sequence a_sorted a_blocks_parentCounts a_blocks_parents a_blocks_includedCounts a_blocks_included a_blocks_locks a_blocks_hashes v_k v_members v_tips v_blocks_made g34 f_future v78 z64_5 r81 hr81) (kV_dg_104 hw ⟨by decide, by decide⟩) (hP.sub [0, 5, 8, 1] rfl) hK hN rfl rfl rfl hl.1 rfl rfl d_dg_settle_81 rfl ?_
          obtain ⟨j102, ej102, h⟩ := mo_jn_e h
          have B102 : ∀ (y102_5 : Int64) (ls : Array Slot) (H : Heap) (locs : List Loc) (hP : va_P D cl [(a_this, .inr (3, [.ref a_blocks, .int v_k, .long v_members, .long v_tips, .ref a_past, .ref a_future, .ref a_blues, .ref a_scores, .ref a_selected, .ref a_sequence, .ref a_sorted])), (a_blocks, .inr (2, [.int v_blocks_made, .ref a_blocks_parentCounts, .ref a_blocks_parents, .ref a_blocks_includedCounts, .ref a_blocks_included, .ref a_blocks_locks, .ref a_blocks_hashes])), (a_scores, .inl (cI, 61, .inl f_scores)), (a_blocks_hashes, .inl (cI, 60, .inl f_blocks_hashes)), (a_selected, .inl (cI, 61, .inl g14)), (a_past, .inl (cL, 61, .inr (.inl g34))), (a_blues, .inl (cL, 61, .inr (.inl f_blues))), (a_sorted, .inl (cI, 60, .inl r56_0)), (a_future, .inl (cL, 60, .inr (.inl f_future)))] H) (hD : va_D A [(a_this, .inr (3, [.ref a_blocks, .int v_k, .long v_members, .long v_tips, .ref a_past, .ref a_future, .ref a_blues, .ref a_scores, .ref a_selected, .ref a_sequence, .ref a_sorted])), (a_blocks, .inr (2, [.int v_blocks_made, .ref a_blocks_parentCounts, .ref a_blocks_parents, .ref a_blocks_includedCounts, .ref a_blocks_included, .ref a_blocks_locks, .ref a_blocks_hashes])), (a_scores, .inl (cI, 61, .inl f_scores)), (a_blocks_hashes, .inl (cI, 60, .inl f_blocks_hashes)), (a_selected, .inl (cI, 61, .inl g14)), (a_past, .inl (cL, 61, .inr (.inl g34))), (a_blues, .inl (cL, 61, .inr (.inl f_blues))), (a_sorted, .inl (cI, 60, .inl r56_0)), (a_future, .inl (cL, 60, .inr (.inl f_future)))]) (hS : va_S A s.heap H locs) (hl : lv_has ls 9 [(0, .ref a_this), (1, .int x1), (5, .long y102_5), (7, .int r56), (8, .int z64_8)]) (h : j102 y102_5 = some w64), W p l e rm_dg_settle s m args below meth c H locs 0 0 Q (F0 m 102 ls []) := by
            intro y102_5 ls H locs hP hD hS hl h
            have h := mo_a1 ej102 h
            refine lv_iinc (pc := 102) (k := 4) (v := z64_8 + 1) (lv' := [(8, .int (z64_8 + 1)), (0, .ref a_this), (1, .int x1), (5, .long y102_5), (7, .int r56)]) hx hb d_dg_settle_102 hl rfl (mo_inc1 _) (by decide) rfl (fun ls hl => ?_)
            refine lv_goto (pc := 105) (tgt := 64) hx hb d_dg_settle_105 rfl ?_
            exact hb64 (y102_5, z64_8 + 1) h _ _ _ hP hD hS (lv_sub hl [1, 2, 3, 4, 0] rfl)
          refine lv_if_eq (pc := 84) (tgt := 102) hx hb d_dg_settle_84 rfl (fun hc => ?_) (fun hc => ?_)
          · have h := mo_t hc h
            exact B102 z64_5 _ _ _ hP hD hS (lv_sub hl [0, 1, 2, 3, 4] rfl) h
          · have h := mo_f hc h
            refine lv_lload (pc := 87) hx hb d_dg_settle_87 (lv_at hl 2 rfl) ?_
            refine lv_aload_n (pc := 89) hx hb d_dg_settle_89 rfl (lv_at hl 0 rfl) ?_
            refine gf_dg_31 (pc := 90) hx hb hw hN hown hK hP 0 rfl rfl d_dg_settle_90 ?_
            refine lv_iload (pc := 93) hx hb d_dg_settle_93 (lv_at hl 4 rfl) ?_
            obtain ⟨v95, hi95, e95, h⟩ := mo_rI_e h
            refine mo_iald (pc := 95) hx hb hK hP 7 0 rfl rfl hi95 e95 d_dg_settle_95 ?_
            obtain ⟨r96, hr96, h⟩ := mo_bd_e h
            refine mo_rSN (pc := 96) (As := [.int v95]) (rest := [.long z64_5]) (st1 := [.long r96, .long z64_5]) ⟨hx, hb, hml, hown, hw⟩ (c_bm_bit l D cI cL cZ v95 r96 hr96) (kSN_dg_79 hw hN ⟨by decide, by decide⟩) mo_P0 hK hN rfl hl.1 rfl rfl d_dg_settle_96 rfl ?_
            refine lv_lor (pc := 99) hx hb d_dg_settle_99 ?_
            refine lv_lstore (pc := 100) (lv' := [(5, .long (z64_5 ||| r96)), (0, .ref a_this), (1, .int x1), (7, .int r56), (8, .int z64_8)]) hx hb d_dg_settle_100 hl (by decide) rfl (fun ls hl => ?_)
            exact B102 (z64_5 ||| r96) _ _ _ hP hD hS (lv_sub hl [1, 2, 0, 3, 4] rfl) h
      ) _ _ hy64 _ _ _ hP hD hS (lv_sub hl [4, 5, 2, 1, 0] rfl)
  · have h := mo_t hc h
    exact mo_retVm hx hb hr hlocks hQ hA2 h hP hS d_dg_settle_21 rfl
set_option maxRecDepth 100000 in
set_option maxHeartbeats 4000000 in
theorem c_dg_attach (l : Launch) (D : va_G) (cI cL cZ : ClassId) (a_this : Nat) (a_blocks : Nat) (a_blocks_parentCounts : Nat) (a_blocks_parents : Nat) (a_scores : Nat) (a_blocks_hashes : Nat) (a_selected : Nat) (a_past : Nat) (a_blues : Nat) (a_sorted : Nat) (a_future : Nat) (a_sequence : Nat) (a_blocks_includedCounts : Nat) (a_blocks_included : Nat) (a_blocks_locks : Nat) (v_k : Int32) (v_members : Int64) (v_tips : Int64) (v_blocks_made : Int32) (f_blocks_parentCounts : Nat → Int32) (f_blocks_parents : Nat → Int32) (f_scores : Nat → Int32) (f_blocks_hashes : Nat → Int32) (f_selected : Nat → Int32) (f_past : Nat → Int64) (f_blues : Nat → Int64) (f_sorted : Nat → Int32) (f_future : Nat → Int64) (x1 : Int32) (o : Int64 × Int64 × (Nat → Int32) × (Nat → Int32) × (Nat → Int64) × (Nat → Int64) × (Nat → Int32) × (Nat → Int64)) (h : m_dg_attach v_k v_members v_tips v_blocks_made f_blocks_parentCounts f_blocks_parents f_scores f_blocks_hashes f_selected f_past f_blues f_sorted f_future x1 = some o) : Met l y_dg_attach (Cond.code y_dg_attach b_dg_attach 5 none :: WG) rm_dg_attach (va_Pc [.ref a_this, .int x1] (mo_Pm D [(cI, .int), (cL, .long), (cZ, .boolean)] [(a_this, .inr (3, [.ref a_blocks, .int v_k, .long v_members, .long v_tips, .ref a_past, .ref a_future, .ref a_blues, .ref a_scores, .ref a_selected, .ref a_sequence, .ref a_sorted])), (a_blocks, .inr (2, [.int v_blocks_made, .ref a_blocks_parentCounts, .ref a_blocks_parents, .ref a_blocks_includedCounts, .ref a_blocks_included, .ref a_blocks_locks, .ref a_blocks_hashes])), (a_blocks_parentCounts, .inl (cI, 60, .inl f_blocks_parentCounts)), (a_blocks_parents, .inl (cI, 240, .inl f_blocks_parents)), (a_scores, .inl (cI, 61, .inl f_scores)), (a_blocks_hashes, .inl (cI, 60, .inl f_blocks_hashes)), (a_selected, .inl (cI, 61, .inl f_selected)), (a_past, .inl (cL, 61, .inr (.inl f_past))), (a_blues, .inl (cL, 61, .inr (.inl f_blues))), (a_sorted, .inl (cI, 60, .inl f_sorted)), (a_future, .inl (cL, 60, .inr (.inl f_future)))])) (mo_Qm D [(a_this, .inr (3, [.ref a_blocks, .int v_k, .long v_members, .long v_tips, .ref a_past, .ref a_future, .ref a_blues, .ref a_scores, .ref a_selected, .ref a_sequence, .ref a_sorted])), (a_blocks, .inr (2, [.int v_blocks_made, .ref a_blocks_parentCounts, .ref a_blocks_parents, .ref a_blocks_includedCounts, .ref a_blocks_included, .ref a_blocks_locks, .ref a_blocks_hashes])), (a_blocks_parentCounts, .inl (cI, 60, .inl f_blocks_parentCounts)), (a_blocks_parents, .inl (cI, 240, .inl f_blocks_parents)), (a_scores, .inl (cI, 61, .inl f_scores)), (a_blocks_hashes, .inl (cI, 60, .inl f_blocks_hashes)), (a_selected, .inl (cI, 61, .inl f_selected)), (a_past, .inl (cL, 61, .inr (.inl f_past))), (a_blues, .inl (cL, 61, .inr (.inl f_blues))), (a_sorted, .inl (cI, 60, .inl f_sorted)), (a_future, .inl (cL, 60, .inr (.inl f_future)))] (fun (o : Int64 × Int64 × (Nat → Int32) × (Nat → Int32) × (Nat → Int64) × (Nat → Int64) × (Nat → Int32) × (Nat → Int64)) => [(a_this, .inr (3, [.ref a_blocks, .int v_k, .long o.1, .long o.2.1, .ref a_past, .ref a_future, .ref a_blues, .ref a_scores, .ref a_selected, .ref a_sequence, .ref a_sorted])), (a_blocks, .inr (2, [.int v_blocks_made, .ref a_blocks_parentCounts, .ref a_blocks_parents, .ref a_blocks_includedCounts, .ref a_blocks_included, .ref a_blocks_locks, .ref a_blocks_hashes])), (a_blocks_parentCounts, .inl (cI, 60, .inl f_blocks_parentCounts)), (a_blocks_parents, .inl (cI, 240, .inl f_blocks_parents)), (a_scores, .inl (cI, 61, .inl o.2.2.1)), (a_blocks_hashes, .inl (cI, 60, .inl f_blocks_hashes)), (a_selected, .inl (cI, 61, .inl o.2.2.2.1)), (a_past, .inl (cL, 61, .inr (.inl o.2.2.2.2.1))), (a_blues, .inl (cL, 61, .inr (.inl o.2.2.2.2.2.1))), (a_sorted, .inl (cI, 60, .inl o.2.2.2.2.2.2.1)), (a_future, .inl (cL, 60, .inr (.inl o.2.2.2.2.2.2.2)))]) (fun (o : Int64 × Int64 × (Nat → Int32) × (Nat → Int32) × (Nat → Int64) × (Nat → Int64) × (Nat → Int32) × (Nat → Int64)) => none) o) 0 0 (mo_A [(a_this, .inr (3, [.ref a_blocks, .int v_k, .long v_members, .long v_tips, .ref a_past, .ref a_future, .ref a_blues, .ref a_scores, .ref a_selected, .ref a_sequence, .ref a_sorted])), (a_blocks, .inr (2, [.int v_blocks_made, .ref a_blocks_parentCounts, .ref a_blocks_parents, .ref a_blocks_includedCounts, .ref a_blocks_included, .ref a_blocks_locks, .ref a_blocks_hashes])), (a_blocks_parentCounts, .inl (cI, 60, .inl f_blocks_parentCounts)), (a_blocks_parents, .inl (cI, 240, .inl f_blocks_parents)), (a_scores, .inl (cI, 61, .inl f_scores)), (a_blocks_hashes, .inl (cI, 60, .inl f_blocks_hashes)), (a_selected, .inl (cI, 61, .inl f_selected)), (a_past, .inl (cL, 61, .inr (.inl f_past))), (a_blues, .inl (cL, 61, .inr (.inl f_blues))), (a_sorted, .inl (cI, 60, .inl f_sorted)), (a_future, .inl (cL, 60, .inr (.inl f_future)))]) := by
  refine mo_start (by decide) (Nat.le_of_ble_eq_true rfl) ?_
  intro p e s m args below meth c hx hb hr hlocks hml hown hw hv ls hl Q hQ
  obtain ⟨hP, hK, hN, hD0⟩ := hv
  have hl : lv_has ls 5 [(0, .ref a_this), (1, .int x1)] := hl
  obtain ⟨A, hA2⟩ : ∃ A, A = mo_A [(a_this, .inr (3, [.ref a_blocks, .int v_k, .long v_members, .long v_tips, .ref a_past, .ref a_future, .ref a_blues, .ref a_scores, .ref a_selected, .ref a_sequence, .ref a_sorted])), (a_blocks, .inr (2, [.int v_blocks_made, .ref a_blocks_parentCounts, .ref a_blocks_parents, .ref a_blocks_includedCounts, .ref a_blocks_included, .ref a_blocks_locks, .ref a_blocks_hashes])), (a_blocks_parentCounts, .inl (cI, 60, .inl f_blocks_parentCounts)), (a_blocks_parents, .inl (cI, 240, .inl f_blocks_parents)), (a_scores, .inl (cI, 61, .inl f_scores)), (a_blocks_hashes, .inl (cI, 60, .inl f_blocks_hashes)), (a_selected, .inl (cI, 61, .inl f_selected)), (a_past, .inl (cL, 61, .inr (.inl f_past))), (a_blues, .inl (cL, 61, .inr (.inl f_blues))), (a_sorted, .inl (cI, 60, .inl f_sorted)), (a_future, .inl (cL, 60, .inr (.inl f_future)))] := ⟨_, rfl⟩
  have hD : va_D A [(a_this, .inr (3, [.ref a_blocks, .int v_k, .long v_members, .long v_tips, .ref a_past, .ref a_future, .ref a_blues, .ref a_scores, .ref a_selected, .ref a_sequence, .ref a_sorted])), (a_blocks, .inr (2, [.int v_blocks_made, .ref a_blocks_parentCounts, .ref a_blocks_parents, .ref a_blocks_includedCounts, .ref a_blocks_included, .ref a_blocks_locks, .ref a_blocks_hashes])), (a_blocks_parentCounts, .inl (cI, 60, .inl f_blocks_parentCounts)), (a_blocks_parents, .inl (cI, 240, .inl f_blocks_parents)), (a_scores, .inl (cI, 61, .inl f_scores)), (a_blocks_hashes, .inl (cI, 60, .inl f_blocks_hashes)), (a_selected, .inl (cI, 61, .inl f_selected)), (a_past, .inl (cL, 61, .inr (.inl f_past))), (a_blues, .inl (cL, 61, .inr (.inl f_blues))), (a_sorted, .inl (cI, 60, .inl f_sorted)), (a_future, .inl (cL, 60, .inr (.inl f_future)))] := hA2 ▸ mo_self hD0
  have hS : va_S A s.heap s.heap [] := va_S.rf
  unfold m_dg_attach at h
  refine lv_aload_n (pc := 0) hx hb d_dg_attach_0 rfl (lv_at hl 0 rfl) ?_
  refine gf_dg_34 (pc := 1) hx hb hw hN hown hK hP 0 rfl rfl d_dg_attach_1 ?_
  refine lv_iload_n (pc := 4) hx hb d_dg_attach_4 rfl (lv_at hl 1 rfl) ?_
  obtain ⟨r5, hr5, h⟩ := mo_bd_e h
  refine mo_rV (pc := 5) (As := [.int x1]) (rest := []) (st1 := [.long r5]) ⟨hx, hb, hml, hown, hw⟩ (c_bl_parentSet l D cI cL cZ a_blocks a_blocks_parentCounts a_blocks_parents a_blocks_includedCounts a_blocks_included a_blocks_locks a_blocks_hashes v_blocks_made f_blocks_parentCounts f_blocks_parents x1 r5 hr5) (kV_dg_56 hw ⟨by decide, by decide⟩) (hP.sub [1, 2, 3] rfl) hK hN rfl rfl rfl hl.1 rfl rfl d_dg_attach_5 rfl ?_
  refine lv_lstore_n (pc := 8) (lv' := [(2, .long r5), (0, .ref a_this), (1, .int x1)]) hx hb d_dg_attach_8 rfl hl (by decide) rfl (fun ls hl => ?_)
  refine lv_aload_n (pc := 9) hx hb d_dg_attach_9 rfl (lv_at hl 1 rfl) ?_
  refine lv_iload_n (pc := 10) hx hb d_dg_attach_10 rfl (lv_at hl 2 rfl) ?_
  refine lv_lload_n (pc := 11) hx hb d_dg_attach_11 rfl (lv_at hl 0 rfl) ?_
  obtain ⟨⟨r12_0, r12_1, r12_2, r12_3, r12_4⟩, hr12, h⟩ := mo_bd_e h
  try dsimp only at h
  refine mo_mV (pc := 12) (As := [.int x1, .long r5]) (rest := []) (st1 := []) ⟨hx, hb, hml, hown, hw⟩ (c_dg_settle l D cI cL cZ a_this a_blocks a_scores a_blocks_hashes a_selected a_past a_blues a_sorted a_future a_sequence a_blocks_parentCounts a_blocks_parents a_blocks_includedCounts a_blocks_included a_blocks_locks v_k v_members v_tips v_blocks_made f_scores f_blocks_hashes f_selected f_past f_blues f_sorted f_future x1 r5 (r12_0, r12_1, r12_2, r12_3, r12_4) hr12) (kV_dg_82 hw ⟨by decide, by decide⟩) hP hD hS hK hN [0, 1, 4, 5, 6, 7, 8, 9, 10] [some 0, some 1, none, none, some 2, some 3, some 4, some 5, some 6, some 7, some 8] rfl rfl rfl rfl rfl rfl rfl hl.1 rfl rfl d_dg_attach_12 rfl (fun H locs hP hD hS => ?_)
  have hP : va_P D cl [(a_this, .inr (3, [.ref a_blocks, .int v_k, .long v_members, .long v_tips, .ref a_past, .ref a_future, .ref a_blues, .ref a_scores, .ref a_selected, .ref a_sequence, .ref a_sorted])), (a_blocks, .inr (2, [.int v_blocks_made, .ref a_blocks_parentCounts, .ref a_blocks_parents, .ref a_blocks_includedCounts, .ref a_blocks_included, .ref a_blocks_locks, .ref a_blocks_hashes])), (a_blocks_parentCounts, .inl (cI, 60, .inl f_blocks_parentCounts)), (a_blocks_parents, .inl (cI, 240, .inl f_blocks_parents)), (a_scores, .inl (cI, 61, .inl r12_0)), (a_blocks_hashes, .inl (cI, 60, .inl f_blocks_hashes)), (a_selected, .inl (cI, 61, .inl r12_1)), (a_past, .inl (cL, 61, .inr (.inl r12_2))), (a_blues, .inl (cL, 61, .inr (.inl r12_3))), (a_sorted, .inl (cI, 60, .inl r12_4)), (a_future, .inl (cL, 60, .inr (.inl f_future)))] H := hP
  have hD : va_D A [(a_this, .inr (3, [.ref a_blocks, .int v_k, .long v_members, .long v_tips, .ref a_past, .ref a_future, .ref a_blues, .ref a_scores, .ref a_selected, .ref a_sequence, .ref a_sorted])), (a_blocks, .inr (2, [.int v_blocks_made, .ref a_blocks_parentCounts, .ref a_blocks_parents, .ref a_blocks_includedCounts, .ref a_blocks_included, .ref a_blocks_locks, .ref a_blocks_hashes])), (a_blocks_parentCounts, .inl (cI, 60, .inl f_blocks_parentCounts)), (a_blocks_parents, .inl (cI, 240, .inl f_blocks_parents)), (a_scores, .inl (cI, 61, .inl r12_0)), (a_blocks_hashes, .inl (cI, 60, .inl f_blocks_hashes)), (a_selected, .inl (cI, 61, .inl r12_1)), (a_past, .inl (cL, 61, .inr (.inl r12_2))), (a_blues, .inl (cL, 61, .inr (.inl r12_3))), (a_sorted, .inl (cI, 60, .inl r12_4)), (a_future, .inl (cL, 60, .inr (.inl f_future)))] := hD
  refine lv_iconst (pc := 15) (v := 0) hx hb d_dg_attach_15 (by decide) ?_
  refine lv_istore (pc := 16) (lv' := [(4, .int 0), (2, .long r5), (0, .ref a_this), (1, .int x1)]) hx hb d_dg_attach_16 hl (by decide) rfl (fun ls hl => ?_)
  obtain ⟨w18, K18, eK18, hy18, hr18⟩ := mo_bd_k h
  have E18 : ∀ (y18_f_future : Nat → Int64) (ls : Array Slot) (H : Heap) (locs : List Loc) (hP : va_P D cl [(a_this, .inr (3, [.ref a_blocks, .int v_k, .long v_members, .long v_tips, .ref a_past, .ref a_future, .ref a_blues, .ref a_scores, .ref a_selected, .ref a_sequence, .ref a_sorted])), (a_blocks, .inr (2, [.int v_blocks_made, .ref a_blocks_parentCounts, .ref a_blocks_parents, .ref a_blocks_includedCounts, .ref a_blocks_included, .ref a_blocks_locks, .ref a_blocks_hashes])), (a_blocks_parentCounts, .inl (cI, 60, .inl f_blocks_parentCounts)), (a_blocks_parents, .inl (cI, 240, .inl f_blocks_parents)), (a_scores, .inl (cI, 61, .inl r12_0)), (a_blocks_hashes, .inl (cI, 60, .inl f_blocks_hashes)), (a_selected, .inl (cI, 61, .inl r12_1)), (a_past, .inl (cL, 61, .inr (.inl r12_2))), (a_blues, .inl (cL, 61, .inr (.inl r12_3))), (a_sorted, .inl (cI, 60, .inl r12_4)), (a_future, .inl (cL, 60, .inr (.inl y18_f_future)))] H) (hD : va_D A [(a_this, .inr (3, [.ref a_blocks, .int v_k, .long v_members, .long v_tips, .ref a_past, .ref a_future, .ref a_blues, .ref a_scores, .ref a_selected, .ref a_sequence, .ref a_sorted])), (a_blocks, .inr (2, [.int v_blocks_made, .ref a_blocks_parentCounts, .ref a_blocks_parents, .ref a_blocks_includedCounts, .ref a_blocks_included, .ref a_blocks_locks, .ref a_blocks_hashes])), (a_blocks_parentCounts, .inl (cI, 60, .inl f_blocks_parentCounts)), (a_blocks_parents, .inl (cI, 240, .inl f_blocks_parents)), (a_scores, .inl (cI, 61, .inl r12_0)), (a_blocks_hashes, .inl (cI, 60, .inl f_blocks_hashes)), (a_selected, .inl (cI, 61, .inl r12_1)), (a_past, .inl (cL, 61, .inr (.inl r12_2))), (a_blues, .inl (cL, 61, .inr (.inl r12_3))), (a_sorted, .inl (cI, 60, .inl r12_4)), (a_future, .inl (cL, 60, .inr (.inl y18_f_future)))]) (hS : va_S A s.heap H locs) (hl : lv_has ls 5 [(0, .ref a_this), (1, .int x1), (2, .long r5)]) (h : K18 y18_f_future = some o), W p l e rm_dg_attach s m args below meth c H locs 0 0 Q (F0 m 64 ls []) := by
    intro y18_f_future ls H locs hP hD hS hl h
    have h := mo_a1 eK18 h
    try dsimp only at h
    refine lv_aload_n (pc := 64) hx hb d_dg_attach_64 rfl (lv_at hl 0 rfl) ?_
    refine lv_dup (pc := 65) hx hb d_dg_attach_65 rfl ?_
    refine gf_dg_42 (pc := 66) hx hb hw hN hown hK hP 0 rfl rfl d_dg_attach_66 ?_
    refine lv_iload_n (pc := 69) hx hb d_dg_attach_69 rfl (lv_at hl 1 rfl) ?_
    obtain ⟨r70, hr70, h⟩ := mo_bd_e h
    refine mo_rSN (pc := 70) (As := [.int x1]) (rest := [.long v_members, .ref a_this]) (st1 := [.long r70, .long v_members, .ref a_this]) ⟨hx, hb, hml, hown, hw⟩ (c_bm_bit l D cI cL cZ x1 r70 hr70) (kSN_dg_79 hw hN ⟨by decide, by decide⟩) mo_P0 hK hN rfl hl.1 rfl rfl d_dg_attach_70 rfl ?_
    refine lv_lor (pc := 73) hx hb d_dg_attach_73 ?_
    refine pf_dg_42 (pc := 74) hx hb hw hN hown hK hP hD hS 0 rfl (Nat.le_of_ble_eq_true rfl) d_dg_attach_74 (fun H locs hP hD hS => ?_)
    have hP : va_P D cl [(a_this, .inr (3, [.ref a_blocks, .int v_k, .long (v_members ||| r70), .long v_tips, .ref a_past, .ref a_future, .ref a_blues, .ref a_scores, .ref a_selected, .ref a_sequence, .ref a_sorted])), (a_blocks, .inr (2, [.int v_blocks_made, .ref a_blocks_parentCounts, .ref a_blocks_parents, .ref a_blocks_includedCounts, .ref a_blocks_included, .ref a_blocks_locks, .ref a_blocks_hashes])), (a_blocks_parentCounts, .inl (cI, 60, .inl f_blocks_parentCounts)), (a_blocks_parents, .inl (cI, 240, .inl f_blocks_parents)), (a_scores, .inl (cI, 61, .inl r12_0)), (a_blocks_hashes, .inl (cI, 60, .inl f_blocks_hashes)), (a_selected, .inl (cI, 61, .inl r12_1)), (a_past, .inl (cL, 61, .inr (.inl r12_2))), (a_blues, .inl (cL, 61, .inr (.inl r12_3))), (a_sorted, .inl (cI, 60, .inl r12_4)), (a_future, .inl (cL, 60, .inr (.inl y18_f_future)))] H := hP
    have hD : va_D A [(a_this, .inr (3, [.ref a_blocks, .int v_k, .long (v_members ||| r70), .long v_tips, .ref a_past, .ref a_future, .ref a_blues, .ref a_scores, .ref a_selected, .ref a_sequence, .ref a_sorted])), (a_blocks, .inr (2, [.int v_blocks_made, .ref a_blocks_parentCounts, .ref a_blocks_parents, .ref a_blocks_includedCounts, .ref a_blocks_included, .ref a_blocks_locks, .ref a_blocks_hashes])), (a_blocks_parentCounts, .inl (cI, 60, .inl f_blocks_parentCounts)), (a_blocks_parents, .inl (cI, 240, .inl f_blocks_parents)), (a_scores, .inl (cI, 61, .inl r12_0)), (a_blocks_hashes, .inl (cI, 60, .inl f_blocks_hashes)), (a_selected, .inl (cI, 61, .inl r12_1)), (a_past, .inl (cL, 61, .inr (.inl r12_2))), (a_blues, .inl (cL, 61, .inr (.inl r12_3))), (a_sorted, .inl (cI, 60, .inl r12_4)), (a_future, .inl (cL, 60, .inr (.inl y18_f_future)))] := hD
    refine lv_aload_n (pc := 77) hx hb d_dg_attach_77 rfl (lv_at hl 0 rfl) ?_
    refine lv_aload_n (pc := 78) hx hb d_dg_attach_78 rfl (lv_at hl 0 rfl) ?_
    refine gf_dg_86 (pc := 79) hx hb hw hN hown hK hP 0 rfl rfl d_dg_attach_79 ?_
    refine lv_lload_n (pc := 82) hx hb d_dg_attach_82 rfl (lv_at hl 2 rfl) ?_
    refine lv_ldc2 (pc := 83) (v := (-1)) hx hb hown (hw _ wd_2_17) d_dg_attach_83 ?_
    refine lv_lxor (pc := 86) hx hb d_dg_attach_86 ?_
    refine lv_land (pc := 87) hx hb d_dg_attach_87 ?_
    refine lv_iload_n (pc := 88) hx hb d_dg_attach_88 rfl (lv_at hl 1 rfl) ?_
    obtain ⟨r89, hr89, h⟩ := mo_bd_e h
    refine mo_rSN (pc := 89) (As := [.int x1]) (rest := [.long (v_tips &&& (r5 ^^^ ((-1)))), .ref a_this]) (st1 := [.long r89, .long (v_tips &&& (r5 ^^^ ((-1)))), .ref a_this]) ⟨hx, hb, hml, hown, hw⟩ (c_bm_bit l D cI cL cZ x1 r89 hr89) (kSN_dg_79 hw hN ⟨by decide, by decide⟩) mo_P0 hK hN rfl hl.1 rfl rfl d_dg_attach_89 rfl ?_
    refine lv_lor (pc := 92) hx hb d_dg_attach_92 ?_
    refine pf_dg_86 (pc := 93) hx hb hw hN hown hK hP hD hS 0 rfl (Nat.le_of_ble_eq_true rfl) d_dg_attach_93 (fun H locs hP hD hS => ?_)
    have hP : va_P D cl [(a_this, .inr (3, [.ref a_blocks, .int v_k, .long (v_members ||| r70), .long ((v_tips &&& (r5 ^^^ ((-1)))) ||| r89), .ref a_past, .ref a_future, .ref a_blues, .ref a_scores, .ref a_selected, .ref a_sequence, .ref a_sorted])), (a_blocks, .inr (2, [.int v_blocks_made, .ref a_blocks_parentCounts, .ref a_blocks_parents, .ref a_blocks_includedCounts, .ref a_blocks_included, .ref a_blocks_locks, .ref a_blocks_hashes])), (a_blocks_parentCounts, .inl (cI, 60, .inl f_blocks_parentCounts)), (a_blocks_parents, .inl (cI, 240, .inl f_blocks_parents)), (a_scores, .inl (cI, 61, .inl r12_0)), (a_blocks_hashes, .inl (cI, 60, .inl f_blocks_hashes)), (a_selected, .inl (cI, 61, .inl r12_1)), (a_past, .inl (cL, 61, .inr (.inl r12_2))), (a_blues, .inl (cL, 61, .inr (.inl r12_3))), (a_sorted, .inl (cI, 60, .inl r12_4)), (a_future, .inl (cL, 60, .inr (.inl y18_f_future)))] H := hP
    have hD : va_D A [(a_this, .inr (3, [.ref a_blocks, .int v_k, .long (v_members ||| r70), .long ((v_tips &&& (r5 ^^^ ((-1)))) ||| r89), .ref a_past, .ref a_future, .ref a_blues, .ref a_scores, .ref a_selected, .ref a_sequence, .ref a_sorted])), (a_blocks, .inr (2, [.int v_blocks_made, .ref a_blocks_parentCounts, .ref a_blocks_parents, .ref a_blocks_includedCounts, .ref a_blocks_included, .ref a_blocks_locks, .ref a_blocks_hashes])), (a_blocks_parentCounts, .inl (cI, 60, .inl f_blocks_parentCounts)), (a_blocks_parents, .inl (cI, 240, .inl f_blocks_parents)), (a_scores, .inl (cI, 61, .inl r12_0)), (a_blocks_hashes, .inl (cI, 60, .inl f_blocks_hashes)), (a_selected, .inl (cI, 61, .inl r12_1)), (a_past, .inl (cL, 61, .inr (.inl r12_2))), (a_blues, .inl (cL, 61, .inr (.inl r12_3))), (a_sorted, .inl (cI, 60, .inl r12_4)), (a_future, .inl (cL, 60, .inr (.inl y18_f_future)))] := hD
    exact mo_retVm hx hb hr hlocks hQ hA2 h hP hS d_dg_attach_96 rfl
  exact mo_lp_i (step := (m_dg_attach_L18 v_blocks_made x1 r12_2)) (o := w18) (fun (x : Int32 × (Nat → Int64)) => match x with | (z18_4, z18_f_future) => ∀ (ls : Array Slot) (H : Heap) (locs : List Loc) (hP : va_P D cl [(a_this, .inr (3, [.ref a_blocks, .int v_k, .long v_members, .long v_tips, .ref a_past, .ref a_future, .ref a_blues, .ref a_scores, .ref a_selected, .ref a_sequence, .ref a_sorted])), (a_blocks, .inr (2, [.int v_blocks_made, .ref a_blocks_parentCounts, .ref a_blocks_parents, .ref a_blocks_includedCounts, .ref a_blocks_included, .ref a_blocks_locks, .ref a_blocks_hashes])), (a_blocks_parentCounts, .inl (cI, 60, .inl f_blocks_parentCounts)), (a_blocks_parents, .inl (cI, 240, .inl f_blocks_parents)), (a_scores, .inl (cI, 61, .inl r12_0)), (a_blocks_hashes, .inl (cI, 60, .inl f_blocks_hashes)), (a_selected, .inl (cI, 61, .inl r12_1)), (a_past, .inl (cL, 61, .inr (.inl r12_2))), (a_blues, .inl (cL, 61, .inr (.inl r12_3))), (a_sorted, .inl (cI, 60, .inl r12_4)), (a_future, .inl (cL, 60, .inr (.inl z18_f_future)))] H) (hD : va_D A [(a_this, .inr (3, [.ref a_blocks, .int v_k, .long v_members, .long v_tips, .ref a_past, .ref a_future, .ref a_blues, .ref a_scores, .ref a_selected, .ref a_sequence, .ref a_sorted])), (a_blocks, .inr (2, [.int v_blocks_made, .ref a_blocks_parentCounts, .ref a_blocks_parents, .ref a_blocks_includedCounts, .ref a_blocks_included, .ref a_blocks_locks, .ref a_blocks_hashes])), (a_blocks_parentCounts, .inl (cI, 60, .inl f_blocks_parentCounts)), (a_blocks_parents, .inl (cI, 240, .inl f_blocks_parents)), (a_scores, .inl (cI, 61, .inl r12_0)), (a_blocks_hashes, .inl (cI, 60, .inl f_blocks_hashes)), (a_selected, .inl (cI, 61, .inl r12_1)), (a_past, .inl (cL, 61, .inr (.inl r12_2))), (a_blues, .inl (cL, 61, .inr (.inl r12_3))), (a_sorted, .inl (cI, 60, .inl r12_4)), (a_future, .inl (cL, 60, .inr (.inl z18_f_future)))]) (hS : va_S A s.heap H locs) (hl : lv_has ls 5 [(0, .ref a_this), (1, .int x1), (2, .long r5), (4, .int z18_4)]), W p l e rm_dg_attach s m args below meth c H locs 0 0 Q (F0 m 18 ls [])) (by
      rintro bk18 hb18 ⟨z18_4, z18_f_future⟩ h ls H locs hP hD hS hl
      unfold m_dg_attach_L18 at h
      try dsimp only at h
      refine lv_iload (pc := 18) hx hb d_dg_attach_18 (lv_at hl 3 rfl) ?_
      refine lv_aload_n (pc := 20) hx hb d_dg_attach_20 rfl (lv_at hl 0 rfl) ?_
      refine gf_dg_34 (pc := 21) hx hb hw hN hown hK hP 0 rfl rfl d_dg_attach_21 ?_
      refine gf_dg_72 (pc := 24) hx hb hw hN hown hK hP 1 rfl rfl d_dg_attach_24 ?_
      refine lv_icmp_ge (pc := 27) (tgt := 64) hx hb d_dg_attach_27 rfl (fun hc => ?_) (fun hc => ?_)
      · have h := mo_t hc h
        exact E18 z18_f_future _ _ _ hP hD hS (lv_sub hl [0, 1, 2] rfl) (by rw [Option.some.inj h]; exact hr18)
      · have h := mo_f hc h
        refine lv_aload_n (pc := 30) hx hb d_dg_attach_30 rfl (lv_at hl 0 rfl) ?_
        refine gf_dg_9 (pc := 31) hx hb hw hN hown hK hP 0 rfl rfl d_dg_attach_31 ?_
        refine lv_iload_n (pc := 34) hx hb d_dg_attach_34 rfl (lv_at hl 1 rfl) ?_
        obtain ⟨v35, hi35, e35, h⟩ := mo_rL_e h
        refine mo_lald (pc := 35) hx hb hK hP 7 1 rfl rfl hi35 e35 d_dg_attach_35 ?_
        refine lv_iload (pc := 36) hx hb d_dg_attach_36 (lv_at hl 3 rfl) ?_
        obtain ⟨r38, hr38, h⟩ := mo_bd_e h
        refine mo_rSN (pc := 38) (As := [.long v35, .int z18_4]) (rest := []) (st1 := [.int r38]) ⟨hx, hb, hml, hown, hw⟩ (c_bm_holds l D cI cL cZ v35 z18_4 r38 hr38) (kSN_dg_52 hw hN ⟨by decide, by decide⟩) mo_P0 hK hN rfl hl.1 rfl rfl d_dg_attach_38 rfl ?_
        obtain ⟨j58, ej58, h⟩ := mo_jn_e h
        have B58 : ∀ (y58_f_future : Nat → Int64) (ls : Array Slot) (H : Heap) (locs : List Loc) (hP : va_P D cl [(a_this, .inr (3, [.ref a_blocks, .int v_k, .long v_members, .long v_tips, .ref a_past, .ref a_future, .ref a_blues, .ref a_scores, .ref a_selected, .ref a_sequence, .ref a_sorted])), (a_blocks, .inr (2, [.int v_blocks_made, .ref a_blocks_parentCounts, .ref a_blocks_parents, .ref a_blocks_includedCounts, .ref a_blocks_included, .ref a_blocks_locks, .ref a_blocks_hashes])), (a_blocks_parentCounts, .inl (cI, 60, .inl f_blocks_parentCounts)), (a_blocks_parents, .inl (cI, 240, .inl f_blocks_parents)), (a_scores, .inl (cI, 61, .inl r12_0)), (a_blocks_hashes, .inl (cI, 60, .inl f_blocks_hashes)), (a_selected, .inl (cI, 61, .inl r12_1)), (a_past, .inl (cL, 61, .inr (.inl r12_2))), (a_blues, .inl (cL, 61, .inr (.inl r12_3))), (a_sorted, .inl (cI, 60, .inl r12_4)), (a_future, .inl (cL, 60, .inr (.inl y58_f_future)))] H) (hD : va_D A [(a_this, .inr (3, [.ref a_blocks, .int v_k, .long v_members, .long v_tips, .ref a_past, .ref a_future, .ref a_blues, .ref a_scores, .ref a_selected, .ref a_sequence, .ref a_sorted])), (a_blocks, .inr (2, [.int v_blocks_made, .ref a_blocks_parentCounts, .ref a_blocks_parents, .ref a_blocks_includedCounts, .ref a_blocks_included, .ref a_blocks_locks, .ref a_blocks_hashes])), (a_blocks_parentCounts, .inl (cI, 60, .inl f_blocks_parentCounts)), (a_blocks_parents, .inl (cI, 240, .inl f_blocks_parents)), (a_scores, .inl (cI, 61, .inl r12_0)), (a_blocks_hashes, .inl (cI, 60, .inl f_blocks_hashes)), (a_selected, .inl (cI, 61, .inl r12_1)), (a_past, .inl (cL, 61, .inr (.inl r12_2))), (a_blues, .inl (cL, 61, .inr (.inl r12_3))), (a_sorted, .inl (cI, 60, .inl r12_4)), (a_future, .inl (cL, 60, .inr (.inl y58_f_future)))]) (hS : va_S A s.heap H locs) (hl : lv_has ls 5 [(0, .ref a_this), (1, .int x1), (2, .long r5), (4, .int z18_4)]) (h : j58 y58_f_future = some w18), W p l e rm_dg_attach s m args below meth c H locs 0 0 Q (F0 m 58 ls []) := by
          intro y58_f_future ls H locs hP hD hS hl h
          have h := mo_a1 ej58 h
          refine lv_iinc (pc := 58) (k := 3) (v := z18_4 + 1) (lv' := [(4, .int (z18_4 + 1)), (0, .ref a_this), (1, .int x1), (2, .long r5)]) hx hb d_dg_attach_58 hl rfl (mo_inc1 _) (by decide) rfl (fun ls hl => ?_)
          refine lv_goto (pc := 61) (tgt := 18) hx hb d_dg_attach_61 rfl ?_
          exact hb18 (z18_4 + 1, y58_f_future) h _ _ _ hP hD hS (lv_sub hl [1, 2, 3, 0] rfl)
        refine lv_if_eq (pc := 41) (tgt := 58) hx hb d_dg_attach_41 rfl (fun hc => ?_) (fun hc => ?_)
        · have h := mo_t hc h
          exact B58 z18_f_future _ _ _ hP hD hS (lv_sub hl [0, 1, 2, 3] rfl) h
        · have h := mo_f hc h
          refine lv_aload_n (pc := 44) hx hb d_dg_attach_44 rfl (lv_at hl 0 rfl) ?_
          refine gf_dg_15 (pc := 45) hx hb hw hN hown hK hP 0 rfl rfl d_dg_attach_45 ?_
          refine lv_iload (pc := 48) hx hb d_dg_attach_48 (lv_at hl 3 rfl) ?_
          refine lv_dup2_11 (pc := 50) hx hb d_dg_attach_50 rfl rfl ?_
          obtain ⟨v51, hi51, e51, h⟩ := mo_rL_e h
          refine mo_lald (pc := 51) hx hb hK hP 10 1 rfl rfl hi51 e51 d_dg_attach_51 ?_
          refine lv_iload_n (pc := 52) hx hb d_dg_attach_52 rfl (lv_at hl 1 rfl) ?_
          obtain ⟨r53, hr53, h⟩ := mo_bd_e h
          refine mo_rSN (pc := 53) (As := [.int x1]) (rest := [.long v51, .int z18_4, .ref a_future]) (st1 := [.long r53, .long v51, .int z18_4, .ref a_future]) ⟨hx, hb, hml, hown, hw⟩ (c_bm_bit l D cI cL cZ x1 r53 hr53) (kSN_dg_79 hw hN ⟨by decide, by decide⟩) mo_P0 hK hN rfl hl.1 rfl rfl d_dg_attach_53 rfl ?_
          refine lv_lor (pc := 56) hx hb d_dg_attach_56 ?_
          obtain ⟨g57, hi57, e57, h⟩ := mo_wL_e h
          refine mo_last (pc := 57) hx hb hK hP hD hS 10 1 rfl rfl hi57 e57 d_dg_attach_57 (fun H locs hP hD hS => ?_)
          have hP : va_P D cl [(a_this, .inr (3, [.ref a_blocks, .int v_k, .long v_members, .long v_tips, .ref a_past, .ref a_future, .ref a_blues, .ref a_scores, .ref a_selected, .ref a_sequence, .ref a_sorted])), (a_blocks, .inr (2, [.int v_blocks_made, .ref a_blocks_parentCounts, .ref a_blocks_parents, .ref a_blocks_includedCounts, .ref a_blocks_included, .ref a_blocks_locks, .ref a_blocks_hashes])), (a_blocks_parentCounts, .inl (cI, 60, .inl f_blocks_parentCounts)), (a_blocks_parents, .inl (cI, 240, .inl f_blocks_parents)), (a_scores, .inl (cI, 61, .inl r12_0)), (a_blocks_hashes, .inl (cI, 60, .inl f_blocks_hashes)), (a_selected, .inl (cI, 61, .inl r12_1)), (a_past, .inl (cL, 61, .inr (.inl r12_2))), (a_blues, .inl (cL, 61, .inr (.inl r12_3))), (a_sorted, .inl (cI, 60, .inl r12_4)), (a_future, .inl (cL, 60, .inr (.inl g57)))] H := hP
          have hD : va_D A [(a_this, .inr (3, [.ref a_blocks, .int v_k, .long v_members, .long v_tips, .ref a_past, .ref a_future, .ref a_blues, .ref a_scores, .ref a_selected, .ref a_sequence, .ref a_sorted])), (a_blocks, .inr (2, [.int v_blocks_made, .ref a_blocks_parentCounts, .ref a_blocks_parents, .ref a_blocks_includedCounts, .ref a_blocks_included, .ref a_blocks_locks, .ref a_blocks_hashes])), (a_blocks_parentCounts, .inl (cI, 60, .inl f_blocks_parentCounts)), (a_blocks_parents, .inl (cI, 240, .inl f_blocks_parents)), (a_scores, .inl (cI, 61, .inl r12_0)), (a_blocks_hashes, .inl (cI, 60, .inl f_blocks_hashes)), (a_selected, .inl (cI, 61, .inl r12_1)), (a_past, .inl (cL, 61, .inr (.inl r12_2))), (a_blues, .inl (cL, 61, .inr (.inl r12_3))), (a_sorted, .inl (cI, 60, .inl r12_4)), (a_future, .inl (cL, 60, .inr (.inl g57)))] := hD
          exact B58 g57 _ _ _ hP hD hS (lv_sub hl [0, 1, 2, 3] rfl) h
    ) _ _ hy18 _ _ _ hP hD hS (lv_sub hl [2, 3, 1, 0] rfl)
