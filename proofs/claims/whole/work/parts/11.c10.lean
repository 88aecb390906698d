set_option maxRecDepth 100000 in
set_option maxHeartbeats 4000000 in
theorem c_mm_placeOf (l : Launch) (D : va_G) (cI cL cZ : ClassId) (a_this : Nat) (a_order : Nat) (a_inputs : Nat) (a_outputs : Nat) (a_source : Nat) (a_index : Nat) (a_secret : Nat) (a_lock : Nat) (a_amount : Nat) (a_id : Nat) (a_parents : Nat) (a_parent : Nat) (a_holds : Nat) (a_held : Nat) (a_blockLock : Nat) (a_hash : Nat) (a_past : Nat) (a_blues : Nat) (a_score : Nat) (a_selected : Nat) (a_orphan : Nat) (a_pool : Nat) (a_merged : Nat) (a_accepted : Nat) (a_free : Nat) (a_coin : Nat) (a_worth : Nat) (v_limit : Int32) (v_made : Int32) (v_blocks : Int32) (v_dag : Int64) (v_orphans : Int32) (v_pooled : Int32) (v_places : Int32) (f_order : Nat → Int32) (x1 : Int32) (o : Int32) (h : m_mm_placeOf v_places f_order x1 = some o) : Met l y_mm_placeOf (Cond.code y_mm_placeOf b_mm_placeOf 3 (some .int) :: WG) rm_mm_placeOf (va_Pc [.ref a_this, .int x1] (mo_Pr D [(cI, .int), (cL, .long), (cZ, .boolean)] [(a_this, .inr (7, [.int v_limit, .int v_made, .ref a_inputs, .ref a_outputs, .ref a_source, .ref a_index, .ref a_secret, .ref a_lock, .ref a_amount, .ref a_id, .int v_blocks, .ref a_parents, .ref a_parent, .ref a_holds, .ref a_held, .ref a_blockLock, .ref a_hash, .long v_dag, .ref a_past, .ref a_blues, .ref a_score, .ref a_selected, .int v_orphans, .ref a_orphan, .int v_pooled, .ref a_pool, .int v_places, .ref a_order, .ref a_merged, .ref a_accepted, .ref a_free, .ref a_coin, .ref a_worth])), (a_order, .inl (cI, 64, .inl f_order))])) (mo_Qr (some (.int o))) 0 0 (fun _ => False) := by
  refine mo_start (by decide) (Nat.le_of_ble_eq_true rfl) ?_
  intro p e s m args below meth c hx hb hr hlocks hml hown hw hv ls hl Q hQ
  obtain ⟨hP, hK, hN⟩ := hv
  have hl : lv_has ls 3 [(0, .ref a_this), (1, .int x1)] := hl
  unfold m_mm_placeOf at h
  refine lv_iconst (pc := 0) (v := 0) hx hb d_mm_placeOf_0 (by decide) ?_
  refine lv_istore_n (pc := 1) (lv' := [(2, .int 0), (0, .ref a_this), (1, .int x1)]) hx hb d_mm_placeOf_1 rfl hl (by decide) rfl (fun ls hl => ?_)
  exact mo_lp_i (step := (m_mm_placeOf_L2 v_places f_order x1)) (o := o) (fun (z2_2 : Int32) => ∀ (ls : Array Slot) (hl : lv_has ls 3 [(0, .ref a_this), (1, .int x1), (2, .int z2_2)]), W p l e rm_mm_placeOf s m args below meth c s.heap [] 0 0 Q (F0 m 2 ls [])) (by
      intro bk2 hb2 z2_2 h ls hl
      unfold m_mm_placeOf_L2 at h
      try dsimp only at h
      refine lv_iload_n (pc := 2) hx hb d_mm_placeOf_2 rfl (lv_at hl 2 rfl) ?_
      refine lv_aload_n (pc := 3) hx hb d_mm_placeOf_3 rfl (lv_at hl 0 rfl) ?_
      refine gf_mm_158 (pc := 4) hx hb hw hN hown hK hP 0 rfl rfl d_mm_placeOf_4 ?_
      refine lv_icmp_ge (pc := 7) (tgt := 28) hx hb d_mm_placeOf_7 rfl (fun hc => ?_) (fun hc => ?_)
      · have h := mo_t hc h
        refine lv_iconst (pc := 28) (v := (-1)) hx hb d_mm_placeOf_28 (by decide) ?_
        exact mo_retIr hx hb hr hlocks hQ h d_mm_placeOf_29
      · have h := mo_f hc h
        refine lv_aload_n (pc := 10) hx hb d_mm_placeOf_10 rfl (lv_at hl 0 rfl) ?_
        refine gf_mm_79 (pc := 11) hx hb hw hN hown hK hP 0 rfl rfl d_mm_placeOf_11 ?_
        refine lv_iload_n (pc := 14) hx hb d_mm_placeOf_14 rfl (lv_at hl 2 rfl) ?_
        obtain ⟨v15, hi15, e15, h⟩ := mo_rI_e h
        refine mo_iald (pc := 15) hx hb hK hP 1 0 rfl rfl hi15 e15 d_mm_placeOf_15 ?_
        refine lv_iload_n (pc := 16) hx hb d_mm_placeOf_16 rfl (lv_at hl 1 rfl) ?_
        refine lv_icmp_ne (pc := 17) (tgt := 22) hx hb d_mm_placeOf_17 rfl (fun hc => ?_) (fun hc => ?_)
        · have h := mo_f hc h
          refine lv_iinc (pc := 22) (k := 2) (v := z2_2 + 1) (lv' := [(2, .int (z2_2 + 1)), (0, .ref a_this), (1, .int x1)]) hx hb d_mm_placeOf_22 hl rfl (mo_inc1 _) (by decide) rfl (fun ls hl => ?_)
          refine lv_goto (pc := 25) (tgt := 2) hx hb d_mm_placeOf_25 rfl ?_
          exact hb2 (z2_2 + 1) h _ (lv_sub hl [1, 2, 0] rfl)
        · have h := mo_t hc h
          refine lv_iload_n (pc := 20) hx hb d_mm_placeOf_20 rfl (lv_at hl 2 rfl) ?_
          exact mo_retIr hx hb hr hlocks hQ h d_mm_placeOf_21
    ) _ _ h _ (lv_sub hl [1, 2, 0] rfl)
set_option maxRecDepth 100000 in
set_option maxHeartbeats 4000000 in
theorem c_mm_block (l : Launch) (D : va_G) (cI cL cZ : ClassId) (a_this : Nat) (a_blues : Nat) (a_orphan : Nat) (a_hash : Nat) (a_order : Nat) (a_score : Nat) (a_selected : Nat) (a_past : Nat) (a_inputs : Nat) (a_outputs : Nat) (a_source : Nat) (a_index : Nat) (a_secret : Nat) (a_lock : Nat) (a_amount : Nat) (a_id : Nat) (a_parents : Nat) (a_parent : Nat) (a_holds : Nat) (a_held : Nat) (a_blockLock : Nat) (a_pool : Nat) (a_merged : Nat) (a_accepted : Nat) (a_free : Nat) (a_coin : Nat) (a_worth : Nat) (v_limit : Int32) (v_made : Int32) (v_blocks : Int32) (v_dag : Int64) (v_orphans : Int32) (v_pooled : Int32) (v_places : Int32) (f_blues : Nat → Int64) (f_orphan : Nat → Int32) (f_hash : Nat → Int32) (f_order : Nat → Int32) (f_score : Nat → Int32) (f_selected : Nat → Int32) (f_past : Nat → Int64) (x1 : Int32) (x2 : Int32) (o : Int32) (h : m_mm_block v_blocks v_dag v_orphans v_places f_blues f_orphan f_hash f_order f_score f_selected f_past x1 x2 = some o) : Met l y_mm_block (Cond.code y_mm_block b_mm_block 4 (some .int) :: WG) rm_mm_block (va_Pc [.ref a_this, .int x1, .int x2] (mo_Pr D [(cI, .int), (cL, .long), (cZ, .boolean)] [(a_this, .inr (7, [.int v_limit, .int v_made, .ref a_inputs, .ref a_outputs, .ref a_source, .ref a_index, .ref a_secret, .ref a_lock, .ref a_amount, .ref a_id, .int v_blocks, .ref a_parents, .ref a_parent, .ref a_holds, .ref a_held, .ref a_blockLock, .ref a_hash, .long v_dag, .ref a_past, .ref a_blues, .ref a_score, .ref a_selected, .int v_orphans, .ref a_orphan, .int v_pooled, .ref a_pool, .int v_places, .ref a_order, .ref a_merged, .ref a_accepted, .ref a_free, .ref a_coin, .ref a_worth])), (a_blues, .inl (cL, 61, .inr (.inl f_blues))), (a_orphan, .inl (cI, 4, .inl f_orphan)), (a_hash, .inl (cI, 62, .inl f_hash)), (a_order, .inl (cI, 64, .inl f_order)), (a_score, .inl (cI, 61, .inl f_score)), (a_selected, .inl (cI, 61, .inl f_selected)), (a_past, .inl (cL, 61, .inr (.inl f_past)))])) (mo_Qr (some (.int o))) 0 0 (fun _ => False) := by
  refine mo_start (by decide) (Nat.le_of_ble_eq_true rfl) ?_
  intro p e s m args below meth c hx hb hr hlocks hml hown hw hv ls hl Q hQ
  obtain ⟨hP, hK, hN⟩ := hv
  have hl : lv_has ls 4 [(0, .ref a_this), (1, .int x1), (2, .int x2)] := hl
  unfold m_mm_block at h
  refine lv_aload_n (pc := 0) hx hb d_mm_block_0 rfl (lv_at hl 0 rfl) ?_
  refine lv_iload_n (pc := 1) hx hb d_mm_block_1 rfl (lv_at hl 1 rfl) ?_
  obtain ⟨r2, hr2, h⟩ := mo_bd_e h
  refine mo_rV (pc := 2) (As := [.int x1]) (rest := []) (st1 := [.int r2]) ⟨hx, hb, hml, hown, hw⟩ (c_mm_isBlock l D cI cL cZ a_this a_inputs a_outputs a_source a_index a_secret a_lock a_amount a_id a_parents a_parent a_holds a_held a_blockLock a_hash a_past a_blues a_score a_selected a_orphan a_pool a_order a_merged a_accepted a_free a_coin a_worth v_limit v_made v_blocks v_dag v_orphans v_pooled v_places x1 r2 hr2) (kV_mm_113 hw ⟨by decide, by decide⟩) (hP.sub [0] rfl) hK hN rfl rfl rfl hl.1 rfl rfl d_mm_block_2 rfl ?_
  refine lv_if_eq (pc := 5) (tgt := 17) hx hb d_mm_block_5 rfl (fun hc => ?_) (fun hc => ?_)
  · have h := mo_t hc h
    refine lv_iconst (pc := 17) (v := (-1)) hx hb d_mm_block_17 (by decide) ?_
    exact mo_retIr hx hb hr hlocks hQ h d_mm_block_18
  · have h := mo_f hc h
    refine lv_iload_n (pc := 8) hx hb d_mm_block_8 rfl (lv_at hl 2 rfl) ?_
    refine lv_if_lt (pc := 9) (tgt := 17) hx hb d_mm_block_9 rfl (fun hc => ?_) (fun hc => ?_)
    · have h := mo_t hc h
      refine lv_iconst (pc := 17) (v := (-1)) hx hb d_mm_block_17 (by decide) ?_
      exact mo_retIr hx hb hr hlocks hQ h d_mm_block_18
    · have h := mo_f hc h
      refine lv_iload_n (pc := 12) hx hb d_mm_block_12 rfl (lv_at hl 2 rfl) ?_
      refine lv_iconst (pc := 13) (v := 5) hx hb d_mm_block_13 (by decide) ?_
      refine lv_icmp_le (pc := 14) (tgt := 19) hx hb d_mm_block_14 rfl (fun hc => ?_) (fun hc => ?_)
      · have h := mo_t hc h
        refine lv_aload_n (pc := 19) hx hb d_mm_block_19 rfl (lv_at hl 0 rfl) ?_
        refine gf_mm_56 (pc := 20) hx hb hw hN hown hK hP 0 rfl rfl d_mm_block_20 ?_
        refine lv_iload_n (pc := 23) hx hb d_mm_block_23 rfl (lv_at hl 1 rfl) ?_
        obtain ⟨r24, hr24, h⟩ := mo_bd_e h
        refine mo_rS (pc := 24) (As := [.long v_dag, .int x1]) (rest := []) (st1 := [.int r24]) ⟨hx, hb, hml, hown, hw⟩ (c_mm_in l D cI cL cZ v_dag x1 r24 hr24) (kS_mm_125 hw ⟨by decide, by decide⟩) mo_P0 hK hN rfl hl.1 rfl rfl d_mm_block_24 rfl ?_
        refine lv_istore_n (pc := 27) (lv' := [(3, .int r24), (0, .ref a_this), (1, .int x1), (2, .int x2)]) hx hb d_mm_block_27 rfl hl (by decide) rfl (fun ls hl => ?_)
        refine lv_iload_n (pc := 28) hx hb d_mm_block_28 rfl (lv_at hl 3 rfl) ?_
        refine lv_if_ne (pc := 29) (tgt := 72) hx hb d_mm_block_29 rfl (fun hc => ?_) (fun hc => ?_)
        · have h := mo_f hc h
          refine lv_iload_n (pc := 72) hx hb d_mm_block_72 rfl (lv_at hl 3 rfl) ?_
          refine lv_iconst (pc := 73) (v := 5) hx hb d_mm_block_73 (by decide) ?_
          refine lv_icmp_ne (pc := 74) (tgt := 84) hx hb d_mm_block_74 rfl (fun hc => ?_) (fun hc => ?_)
          · have h := mo_f hc h
            refine lv_iload_n (pc := 84) hx hb d_mm_block_84 rfl (lv_at hl 0 rfl) ?_
            refine lv_if_ne (pc := 85) (tgt := 90) hx hb d_mm_block_85 rfl (fun hc => ?_) (fun hc => ?_)
            · have h := mo_f hc h
              refine lv_iload_n (pc := 90) hx hb d_mm_block_90 rfl (lv_at hl 3 rfl) ?_
              refine lv_iconst (pc := 91) (v := 3) hx hb d_mm_block_91 (by decide) ?_
              refine lv_icmp_ne (pc := 92) (tgt := 101) hx hb d_mm_block_92 rfl (fun hc => ?_) (fun hc => ?_)
              · have h := mo_f hc h
                refine lv_iload_n (pc := 101) hx hb d_mm_block_101 rfl (lv_at hl 3 rfl) ?_
                refine lv_iconst (pc := 102) (v := 1) hx hb d_mm_block_102 (by decide) ?_
                refine lv_icmp_ne (pc := 103) (tgt := 115) hx hb d_mm_block_103 rfl (fun hc => ?_) (fun hc => ?_)
                · have h := mo_f hc h
                  refine lv_iload_n (pc := 115) hx hb d_mm_block_115 rfl (lv_at hl 3 rfl) ?_
                  refine lv_iconst (pc := 116) (v := 2) hx hb d_mm_block_116 (by decide) ?_
                  refine lv_icmp_ne (pc := 117) (tgt := 129) hx hb d_mm_block_117 rfl (fun hc => ?_) (fun hc => ?_)
                  · have h := mo_f hc h
                    refine lv_iload_n (pc := 129) hx hb d_mm_block_129 rfl (lv_at hl 2 rfl) ?_
                    refine lv_if_ne (pc := 130) (tgt := 137) hx hb d_mm_block_130 rfl (fun hc => ?_) (fun hc => ?_)
                    · have h := mo_f hc h
                      refine lv_aload_n (pc := 137) hx hb d_mm_block_137 rfl (lv_at hl 1 rfl) ?_
                      refine gf_mm_60 (pc := 138) hx hb hw hN hown hK hP 0 rfl rfl d_mm_block_138 ?_
                      refine lv_iload_n (pc := 141) hx hb d_mm_block_141 rfl (lv_at hl 2 rfl) ?_
                      obtain ⟨v142, hi142, e142, h⟩ := mo_rL_e h
                      refine mo_lald (pc := 142) hx hb hK hP 7 1 rfl rfl hi142 e142 d_mm_block_142 ?_
                      refine lv_aload_n (pc := 143) hx hb d_mm_block_143 rfl (lv_at hl 1 rfl) ?_
                      refine gf_mm_60 (pc := 144) hx hb hw hN hown hK hP 0 rfl rfl d_mm_block_144 ?_
                      refine lv_aload_n (pc := 147) hx hb d_mm_block_147 rfl (lv_at hl 1 rfl) ?_
                      refine gf_mm_70 (pc := 148) hx hb hw hN hown hK hP 0 rfl rfl d_mm_block_148 ?_
                      refine lv_iload_n (pc := 151) hx hb d_mm_block_151 rfl (lv_at hl 2 rfl) ?_
                      obtain ⟨v152, hi152, e152, h⟩ := mo_rI_e h
                      refine mo_iald (pc := 152) hx hb hK hP 6 0 rfl rfl hi152 e152 d_mm_block_152 ?_
                      obtain ⟨v153, hi153, e153, h⟩ := mo_rL_e h
                      refine mo_lald (pc := 153) hx hb hK hP 7 1 rfl rfl hi153 e153 d_mm_block_153 ?_
                      refine lv_ldc2 (pc := 154) (v := (-1)) hx hb hown (hw _ wd_3_135) d_mm_block_154 ?_
                      refine lv_lxor (pc := 157) hx hb d_mm_block_157 ?_
                      refine lv_land (pc := 158) hx hb d_mm_block_158 ?_
                      obtain ⟨r159, hr159, h⟩ := mo_bd_e h
                      refine mo_rS (pc := 159) (As := [.long (v142 &&& (v153 ^^^ ((-1))))]) (rest := []) (st1 := [.int r159]) ⟨hx, hb, hml, hown, hw⟩ (c_mm_many l D cI cL cZ (v142 &&& (v153 ^^^ ((-1)))) r159 hr159) (kS_mm_143 hw ⟨by decide, by decide⟩) mo_P0 hK hN rfl hl.1 rfl rfl d_mm_block_159 rfl ?_
                      refine lv_iconst (pc := 162) (v := 1) hx hb d_mm_block_162 (by decide) ?_
                      refine lv_isub (pc := 163) hx hb d_mm_block_163 ?_
                      exact mo_retIr hx hb hr hlocks hQ h d_mm_block_164
                    · have h := mo_t hc h
                      refine lv_iconst (pc := 133) (v := 0) hx hb d_mm_block_133 (by decide) ?_
                      refine lv_goto (pc := 134) (tgt := 164) hx hb d_mm_block_134 rfl ?_
                      exact mo_retIr hx hb hr hlocks hQ h d_mm_block_164
                  · have h := mo_t hc h
                    refine lv_aload_n (pc := 120) hx hb d_mm_block_120 rfl (lv_at hl 1 rfl) ?_
                    refine gf_mm_70 (pc := 121) hx hb hw hN hown hK hP 0 rfl rfl d_mm_block_121 ?_
                    refine lv_iload_n (pc := 124) hx hb d_mm_block_124 rfl (lv_at hl 2 rfl) ?_
                    obtain ⟨v125, hi125, e125, h⟩ := mo_rI_e h
                    refine mo_iald (pc := 125) hx hb hK hP 6 0 rfl rfl hi125 e125 d_mm_block_125 ?_
                    refine lv_goto (pc := 126) (tgt := 164) hx hb d_mm_block_126 rfl ?_
                    exact mo_retIr hx hb hr hlocks hQ h d_mm_block_164
                · have h := mo_t hc h
                  refine lv_aload_n (pc := 106) hx hb d_mm_block_106 rfl (lv_at hl 1 rfl) ?_
                  refine gf_mm_67 (pc := 107) hx hb hw hN hown hK hP 0 rfl rfl d_mm_block_107 ?_
                  refine lv_iload_n (pc := 110) hx hb d_mm_block_110 rfl (lv_at hl 2 rfl) ?_
                  obtain ⟨v111, hi111, e111, h⟩ := mo_rI_e h
                  refine mo_iald (pc := 111) hx hb hK hP 5 0 rfl rfl hi111 e111 d_mm_block_111 ?_
                  refine lv_goto (pc := 112) (tgt := 164) hx hb d_mm_block_112 rfl ?_
                  exact mo_retIr hx hb hr hlocks hQ h d_mm_block_164
              · have h := mo_t hc h
                refine lv_aload_n (pc := 95) hx hb d_mm_block_95 rfl (lv_at hl 1 rfl) ?_
                refine lv_iload_n (pc := 96) hx hb d_mm_block_96 rfl (lv_at hl 2 rfl) ?_
                obtain ⟨r97, hr97, h⟩ := mo_bd_e h
                refine mo_rV (pc := 97) (As := [.int x1]) (rest := []) (st1 := [.int r97]) ⟨hx, hb, hml, hown, hw⟩ (c_mm_placeOf l D cI cL cZ a_this a_order a_inputs a_outputs a_source a_index a_secret a_lock a_amount a_id a_parents a_parent a_holds a_held a_blockLock a_hash a_past a_blues a_score a_selected a_orphan a_pool a_merged a_accepted a_free a_coin a_worth v_limit v_made v_blocks v_dag v_orphans v_pooled v_places f_order x1 r97 hr97) (kV_mm_211 hw ⟨by decide, by decide⟩) (hP.sub [0, 4] rfl) hK hN rfl rfl rfl hl.1 rfl rfl d_mm_block_97 rfl ?_
                exact mo_retIr hx hb hr hlocks hQ h d_mm_block_100
            · have h := mo_t hc h
              refine lv_iconst (pc := 88) (v := (-1)) hx hb d_mm_block_88 (by decide) ?_
              exact mo_retIr hx hb hr hlocks hQ h d_mm_block_89
          · have h := mo_t hc h
            refine lv_aload_n (pc := 77) hx hb d_mm_block_77 rfl (lv_at hl 1 rfl) ?_
            refine gf_mm_53 (pc := 78) hx hb hw hN hown hK hP 0 rfl rfl d_mm_block_78 ?_
            refine lv_iload_n (pc := 81) hx hb d_mm_block_81 rfl (lv_at hl 2 rfl) ?_
            obtain ⟨v82, hi82, e82, h⟩ := mo_rI_e h
            refine mo_iald (pc := 82) hx hb hK hP 3 0 rfl rfl hi82 e82 d_mm_block_82 ?_
            exact mo_retIr hx hb hr hlocks hQ h d_mm_block_83
        · have h := mo_t hc h
          refine lv_iload_n (pc := 32) hx hb d_mm_block_32 rfl (lv_at hl 0 rfl) ?_
          refine lv_if_eq (pc := 33) (tgt := 58) hx hb d_mm_block_33 rfl (fun hc => ?_) (fun hc => ?_)
          · have h := mo_t hc h
            refine lv_aload_n (pc := 58) hx hb d_mm_block_58 rfl (lv_at hl 1 rfl) ?_
            refine lv_iload_n (pc := 59) hx hb d_mm_block_59 rfl (lv_at hl 2 rfl) ?_
            obtain ⟨r60, hr60, h⟩ := mo_bd_e h
            refine mo_rV (pc := 60) (As := [.int x1]) (rest := []) (st1 := [.int r60]) ⟨hx, hb, hml, hown, hw⟩ (c_mm_isOrphan l D cI cL cZ a_this a_orphan a_inputs a_outputs a_source a_index a_secret a_lock a_amount a_id a_parents a_parent a_holds a_held a_blockLock a_hash a_past a_blues a_score a_selected a_pool a_order a_merged a_accepted a_free a_coin a_worth v_limit v_made v_blocks v_dag v_orphans v_pooled v_places f_orphan x1 r60 hr60) (kV_mm_192 hw ⟨by decide, by decide⟩) (hP.sub [0, 2] rfl) hK hN rfl rfl rfl hl.1 rfl rfl d_mm_block_60 rfl ?_
            refine lv_if_eq (pc := 63) (tgt := 70) hx hb d_mm_block_63 rfl (fun hc => ?_) (fun hc => ?_)
            · have h := mo_t hc h
              refine lv_iconst (pc := 70) (v := 0) hx hb d_mm_block_70 (by decide) ?_
              exact mo_retIr hx hb hr hlocks hQ h d_mm_block_71
            · have h := mo_f hc h
              refine lv_iconst (pc := 66) (v := 3) hx hb d_mm_block_66 (by decide) ?_
              refine lv_goto (pc := 67) (tgt := 71) hx hb d_mm_block_67 rfl ?_
              exact mo_retIr hx hb hr hlocks hQ h d_mm_block_71
          · have h := mo_f hc h
            refine lv_aload_n (pc := 36) hx hb d_mm_block_36 rfl (lv_at hl 1 rfl) ?_
            refine gf_mm_64 (pc := 37) hx hb hw hN hown hK hP 0 rfl rfl d_mm_block_37 ?_
            refine lv_bipush (pc := 40) (v := 60) hx hb d_mm_block_40 (by decide) ?_
            obtain ⟨v42, hi42, e42, h⟩ := mo_rL_e h
            refine mo_lald (pc := 42) hx hb hK hP 1 1 rfl rfl hi42 e42 d_mm_block_42 ?_
            refine lv_iload_n (pc := 43) hx hb d_mm_block_43 rfl (lv_at hl 2 rfl) ?_
            obtain ⟨r44, hr44, h⟩ := mo_bd_e h
            refine mo_rS (pc := 44) (As := [.long v42, .int x1]) (rest := []) (st1 := [.int r44]) ⟨hx, hb, hml, hown, hw⟩ (c_mm_in l D cI cL cZ v42 x1 r44 hr44) (kS_mm_125 hw ⟨by decide, by decide⟩) mo_P0 hK hN rfl hl.1 rfl rfl d_mm_block_44 rfl ?_
            refine lv_if_eq (pc := 47) (tgt := 54) hx hb d_mm_block_47 rfl (fun hc => ?_) (fun hc => ?_)
            · have h := mo_t hc h
              refine lv_iconst (pc := 54) (v := 1) hx hb d_mm_block_54 (by decide) ?_
              refine lv_goto (pc := 55) (tgt := 71) hx hb d_mm_block_55 rfl ?_
              exact mo_retIr hx hb hr hlocks hQ h d_mm_block_71
            · have h := mo_f hc h
              refine lv_iconst (pc := 50) (v := 2) hx hb d_mm_block_50 (by decide) ?_
              refine lv_goto (pc := 51) (tgt := 71) hx hb d_mm_block_51 rfl ?_
              exact mo_retIr hx hb hr hlocks hQ h d_mm_block_71
      · have h := mo_f hc h
        refine lv_iconst (pc := 17) (v := (-1)) hx hb d_mm_block_17 (by decide) ?_
        exact mo_retIr hx hb hr hlocks hQ h d_mm_block_18
set_option maxRecDepth 100000 in
set_option maxHeartbeats 4000000 in
theorem c_mm_order (l : Launch) (D : va_G) (cI cL cZ : ClassId) (a_this : Nat) (a_order : Nat) (a_inputs : Nat) (a_outputs : Nat) (a_source : Nat) (a_index : Nat) (a_secret : Nat) (a_lock : Nat) (a_amount : Nat) (a_id : Nat) (a_parents : Nat) (a_parent : Nat) (a_holds : Nat) (a_held : Nat) (a_blockLock : Nat) (a_hash : Nat) (a_past : Nat) (a_blues : Nat) (a_score : Nat) (a_selected : Nat) (a_orphan : Nat) (a_pool : Nat) (a_merged : Nat) (a_accepted : Nat) (a_free : Nat) (a_coin : Nat) (a_worth : Nat) (v_limit : Int32) (v_made : Int32) (v_blocks : Int32) (v_dag : Int64) (v_orphans : Int32) (v_pooled : Int32) (v_places : Int32) (f_order : Nat → Int32) (x1 : Int32) (o : Int32) (h : m_mm_order v_places f_order x1 = some o) : Met l y_mm_order (Cond.code y_mm_order b_mm_order 2 (some .int) :: WG) rm_mm_order (va_Pc [.ref a_this, .int x1] (mo_Pr D [(cI, .int), (cL, .long), (cZ, .boolean)] [(a_this, .inr (7, [.int v_limit, .int v_made, .ref a_inputs, .ref a_outputs, .ref a_source, .ref a_index, .ref a_secret, .ref a_lock, .ref a_amount, .ref a_id, .int v_blocks, .ref a_parents, .ref a_parent, .ref a_holds, .ref a_held, .ref a_blockLock, .ref a_hash, .long v_dag, .ref a_past, .ref a_blues, .ref a_score, .ref a_selected, .int v_orphans, .ref a_orphan, .int v_pooled, .ref a_pool, .int v_places, .ref a_order, .ref a_merged, .ref a_accepted, .ref a_free, .ref a_coin, .ref a_worth])), (a_order, .inl (cI, 64, .inl f_order))])) (mo_Qr (some (.int o))) 0 0 (fun _ => False) := by
  refine mo_start (by decide) (Nat.le_of_ble_eq_true rfl) ?_
  intro p e s m args below meth c hx hb hr hlocks hml hown hw hv ls hl Q hQ
  obtain ⟨hP, hK, hN⟩ := hv
  have hl : lv_has ls 2 [(0, .ref a_this), (1, .int x1)] := hl
  unfold m_mm_order at h
  refine lv_iload_n (pc := 0) hx hb d_mm_order_0 rfl (lv_at hl 1 rfl) ?_
  obtain ⟨j12, ej12, h⟩ := mo_jn_e h
  have B12 : ∀ (ls : Array Slot) (hl : lv_has ls 2 []) (h : j12 = some o), W p l e rm_mm_order s m args below meth c s.heap [] 0 0 Q (F0 m 12 ls []) := by
    intro ls hl h
    have h := mo_a0 ej12 h
    refine lv_iconst (pc := 12) (v := (-1)) hx hb d_mm_order_12 (by decide) ?_
    refine lv_goto (pc := 13) (tgt := 22) hx hb d_mm_order_13 rfl ?_
    exact mo_retIr hx hb hr hlocks hQ h d_mm_order_22
  refine lv_if_lt (pc := 1) (tgt := 12) hx hb d_mm_order_1 rfl (fun hc => ?_) (fun hc => ?_)
  · have h := mo_t hc h
    exact B12 _ (lv_sub hl [] rfl) h
  · have h := mo_f hc h
    refine lv_iload_n (pc := 4) hx hb d_mm_order_4 rfl (lv_at hl 1 rfl) ?_
    refine lv_aload_n (pc := 5) hx hb d_mm_order_5 rfl (lv_at hl 0 rfl) ?_
    refine gf_mm_158 (pc := 6) hx hb hw hN hown hK hP 0 rfl rfl d_mm_order_6 ?_
    refine lv_icmp_lt (pc := 9) (tgt := 16) hx hb d_mm_order_9 rfl (fun hc => ?_) (fun hc => ?_)
    · have h := mo_t hc h
      refine lv_aload_n (pc := 16) hx hb d_mm_order_16 rfl (lv_at hl 0 rfl) ?_
      refine gf_mm_79 (pc := 17) hx hb hw hN hown hK hP 0 rfl rfl d_mm_order_17 ?_
      refine lv_iload_n (pc := 20) hx hb d_mm_order_20 rfl (lv_at hl 1 rfl) ?_
      obtain ⟨v21, hi21, e21, h⟩ := mo_rI_e h
      refine mo_iald (pc := 21) hx hb hK hP 1 0 rfl rfl hi21 e21 d_mm_order_21 ?_
      exact mo_retIr hx hb hr hlocks hQ h d_mm_order_22
    · have h := mo_f hc h
      exact B12 _ (lv_sub hl [] rfl) h
set_option maxRecDepth 100000 in
set_option maxHeartbeats 4000000 in
theorem c_mm_unspent (l : Launch) (D : va_G) (cI cL cZ : ClassId) (a_this : Nat) (a_free : Nat) (a_coin : Nat) (a_amount : Nat) (a_worth : Nat) (a_inputs : Nat) (a_outputs : Nat) (a_source : Nat) (a_index : Nat) (a_secret : Nat) (a_lock : Nat) (a_id : Nat) (a_parents : Nat) (a_parent : Nat) (a_holds : Nat) (a_held : Nat) (a_blockLock : Nat) (a_hash : Nat) (a_past : Nat) (a_blues : Nat) (a_score : Nat) (a_selected : Nat) (a_orphan : Nat) (a_pool : Nat) (a_order : Nat) (a_merged : Nat) (a_accepted : Nat) (v_limit : Int32) (v_made : Int32) (v_blocks : Int32) (v_dag : Int64) (v_orphans : Int32) (v_pooled : Int32) (v_places : Int32) (f_free : Nat → Int32) (f_coin : Nat → Int32) (f_amount : Nat → Int32) (f_worth : Nat → Int32) (x1 : Int32) (x2 : Int32) (o : Int32) (h : m_mm_unspent v_made v_blocks f_free f_coin f_amount f_worth x1 x2 = some o) : Met l y_mm_unspent (Cond.code y_mm_unspent b_mm_unspent 5 (some .int) :: WG) rm_mm_unspent (va_Pc [.ref a_this, .int x1, .int x2] (mo_Pr D [(cI, .int), (cL, .long), (cZ, .boolean)] [(a_this, .inr (7, [.int v_limit, .int v_made, .ref a_inputs, .ref a_outputs, .ref a_source, .ref a_index, .ref a_secret, .ref a_lock, .ref a_amount, .ref a_id, .int v_blocks, .ref a_parents, .ref a_parent, .ref a_holds, .ref a_held, .ref a_blockLock, .ref a_hash, .long v_dag, .ref a_past, .ref a_blues, .ref a_score, .ref a_selected, .int v_orphans, .ref a_orphan, .int v_pooled, .ref a_pool, .int v_places, .ref a_order, .ref a_merged, .ref a_accepted, .ref a_free, .ref a_coin, .ref a_worth])), (a_free, .inl (cZ, 80, .inl f_free)), (a_coin, .inl (cZ, 60, .inl f_coin)), (a_amount, .inl (cI, 82, .inl f_amount)), (a_worth, .inl (cI, 60, .inl f_worth))])) (mo_Qr (some (.int o))) 0 0 (fun _ => False) := by
  refine mo_start (by decide) (Nat.le_of_ble_eq_true rfl) ?_
  intro p e s m args below meth c hx hb hr hlocks hml hown hw hv ls hl Q hQ
  obtain ⟨hP, hK, hN⟩ := hv
  have hl : lv_has ls 5 [(0, .ref a_this), (1, .int x1), (2, .int x2)] := hl
  unfold m_mm_unspent at h
  refine lv_iload_n (pc := 0) hx hb d_mm_unspent_0 rfl (lv_at hl 1 rfl) ?_
  refine lv_bipush (pc := 1) (v := 100) hx hb d_mm_unspent_1 (by decide) ?_
  obtain ⟨j22, ej22, h⟩ := mo_jn_e h
  have B22 : ∀ (s22_0 : Int32) (ls : Array Slot) (hl : lv_has ls 5 [(0, .ref a_this), (1, .int x1), (2, .int x2)]) (h : j22 s22_0 = some o), W p l e rm_mm_unspent s m args below meth c s.heap [] 0 0 Q (F0 m 22 ls [.int s22_0]) := by
    intro s22_0 ls hl h
    have h := mo_a1 ej22 h
    refine lv_istore_n (pc := 22) (lv' := [(3, .int s22_0), (0, .ref a_this), (1, .int x1), (2, .int x2)]) hx hb d_mm_unspent_22 rfl hl (by decide) rfl (fun ls hl => ?_)
    refine lv_iload_n (pc := 23) hx hb d_mm_unspent_23 rfl (lv_at hl 2 rfl) ?_
    obtain ⟨j40, ej40, h⟩ := mo_jn_e h
    have B40 : ∀ (s40_0 : Int32) (ls : Array Slot) (hl : lv_has ls 5 [(0, .ref a_this), (1, .int x1), (2, .int x2), (3, .int s22_0)]) (h : j40 s40_0 = some o), W p l e rm_mm_unspent s m args below meth c s.heap [] 0 0 Q (F0 m 40 ls [.int s40_0]) := by
      intro s40_0 ls hl h
      have h := mo_a1 ej40 h
      refine lv_istore (pc := 40) (lv' := [(4, .int s40_0), (0, .ref a_this), (1, .int x1), (2, .int x2), (3, .int s22_0)]) hx hb d_mm_unspent_40 hl (by decide) rfl (fun ls hl => ?_)
      refine lv_iload_n (pc := 42) hx hb d_mm_unspent_42 rfl (lv_at hl 4 rfl) ?_
      obtain ⟨j51, ej51, h⟩ := mo_jn_e h
      have B51 : ∀ (ls : Array Slot) (hl : lv_has ls 5 [(0, .ref a_this), (1, .int x1), (2, .int x2)]) (h : j51 = some o), W p l e rm_mm_unspent s m args below meth c s.heap [] 0 0 Q (F0 m 51 ls []) := by
        intro ls hl h
        have h := mo_a0 ej51 h
        refine lv_iload_n (pc := 51) hx hb d_mm_unspent_51 rfl (lv_at hl 2 rfl) ?_
        refine lv_if_lt (pc := 52) (tgt := 60) hx hb d_mm_unspent_52 rfl (fun hc => ?_) (fun hc => ?_)
        · have h := mo_t hc h
          refine lv_iconst (pc := 60) (v := (-1)) hx hb d_mm_unspent_60 (by decide) ?_
          exact mo_retIr hx hb hr hlocks hQ h d_mm_unspent_61
        · have h := mo_f hc h
          refine lv_iload_n (pc := 55) hx hb d_mm_unspent_55 rfl (lv_at hl 2 rfl) ?_
          refine lv_iconst (pc := 56) (v := 1) hx hb d_mm_unspent_56 (by decide) ?_
          refine lv_icmp_le (pc := 57) (tgt := 62) hx hb d_mm_unspent_57 rfl (fun hc => ?_) (fun hc => ?_)
          · have h := mo_t hc h
            refine lv_aload_n (pc := 62) hx hb d_mm_unspent_62 rfl (lv_at hl 0 rfl) ?_
            refine lv_iload_n (pc := 63) hx hb d_mm_unspent_63 rfl (lv_at hl 1 rfl) ?_
            refine lv_iload_n (pc := 64) hx hb d_mm_unspent_64 rfl (lv_at hl 2 rfl) ?_
            obtain ⟨r65, hr65, h⟩ := mo_bd_e h
            refine mo_rV (pc := 65) (As := [.int x1, .int x2]) (rest := []) (st1 := [.int r65]) ⟨hx, hb, hml, hown, hw⟩ (c_mm_there l D cI cL cZ a_this a_free a_coin a_inputs a_outputs a_source a_index a_secret a_lock a_amount a_id a_parents a_parent a_holds a_held a_blockLock a_hash a_past a_blues a_score a_selected a_orphan a_pool a_order a_merged a_accepted a_worth v_limit v_made v_blocks v_dag v_orphans v_pooled v_places f_free f_coin x1 x2 r65 hr65) (kV_mm_174 hw ⟨by decide, by decide⟩) (hP.sub [0, 1, 2] rfl) hK hN rfl rfl rfl hl.1 rfl rfl d_mm_unspent_65 rfl ?_
            refine lv_if_eq (pc := 68) (tgt := 80) hx hb d_mm_unspent_68 rfl (fun hc => ?_) (fun hc => ?_)
            · have h := mo_t hc h
              refine lv_iconst (pc := 80) (v := (-1)) hx hb d_mm_unspent_80 (by decide) ?_
              exact mo_retIr hx hb hr hlocks hQ h d_mm_unspent_81
            · have h := mo_f hc h
              refine lv_aload_n (pc := 71) hx hb d_mm_unspent_71 rfl (lv_at hl 0 rfl) ?_
              refine lv_iload_n (pc := 72) hx hb d_mm_unspent_72 rfl (lv_at hl 1 rfl) ?_
              refine lv_iload_n (pc := 73) hx hb d_mm_unspent_73 rfl (lv_at hl 2 rfl) ?_
              obtain ⟨r74, hr74, h⟩ := mo_bd_e h
              refine mo_rV (pc := 74) (As := [.int x1, .int x2]) (rest := []) (st1 := [.int r74]) ⟨hx, hb, hml, hown, hw⟩ (c_mm_worthOf l D cI cL cZ a_this a_amount a_worth a_inputs a_outputs a_source a_index a_secret a_lock a_id a_parents a_parent a_holds a_held a_blockLock a_hash a_past a_blues a_score a_selected a_orphan a_pool a_order a_merged a_accepted a_free a_coin v_limit v_made v_blocks v_dag v_orphans v_pooled v_places f_amount f_worth x1 x2 r74 hr74) (kV_mm_171 hw ⟨by decide, by decide⟩) (hP.sub [0, 3, 4] rfl) hK hN rfl rfl rfl hl.1 rfl rfl d_mm_unspent_74 rfl ?_
              refine lv_goto (pc := 77) (tgt := 81) hx hb d_mm_unspent_77 rfl ?_
              exact mo_retIr hx hb hr hlocks hQ h d_mm_unspent_81
          · have h := mo_f hc h
            refine lv_iconst (pc := 60) (v := (-1)) hx hb d_mm_unspent_60 (by decide) ?_
            exact mo_retIr hx hb hr hlocks hQ h d_mm_unspent_61
      refine lv_if_ne (pc := 43) (tgt := 51) hx hb d_mm_unspent_43 rfl (fun hc => ?_) (fun hc => ?_)
      · have h := mo_f hc h
        exact B51 _ (lv_sub hl [1, 2, 3] rfl) h
      · have h := mo_t hc h
        refine lv_iload (pc := 46) hx hb d_mm_unspent_46 (lv_at hl 0 rfl) ?_
        refine lv_if_eq (pc := 48) (tgt := 60) hx hb d_mm_unspent_48 rfl (fun hc => ?_) (fun hc => ?_)
        · have h := mo_t hc h
          refine lv_iconst (pc := 60) (v := (-1)) hx hb d_mm_unspent_60 (by decide) ?_
          exact mo_retIr hx hb hr hlocks hQ h d_mm_unspent_61
        · have h := mo_f hc h
          exact B51 _ (lv_sub hl [1, 2, 3] rfl) h
    obtain ⟨j39, ej39, h⟩ := mo_jn_e h
    have B39 : ∀ (ls : Array Slot) (hl : lv_has ls 5 [(0, .ref a_this), (1, .int x1), (2, .int x2), (3, .int s22_0)]) (h : j39 = some o), W p l e rm_mm_unspent s m args below meth c s.heap [] 0 0 Q (F0 m 39 ls []) := by
      intro ls hl h
      have h := mo_a0 ej39 h
      refine lv_iconst (pc := 39) (v := 0) hx hb d_mm_unspent_39 (by decide) ?_
      exact B40 0 _ (lv_sub hl [0, 1, 2, 3] rfl) h
    refine lv_if_lt (pc := 24) (tgt := 39) hx hb d_mm_unspent_24 rfl (fun hc => ?_) (fun hc => ?_)
    · have h := mo_t hc h
      exact B39 _ (lv_sub hl [1, 2, 3, 0] rfl) h
    · have h := mo_f hc h
      refine lv_iload_n (pc := 27) hx hb d_mm_unspent_27 rfl (lv_at hl 2 rfl) ?_
      refine lv_aload_n (pc := 28) hx hb d_mm_unspent_28 rfl (lv_at hl 1 rfl) ?_
      refine gf_mm_110 (pc := 29) hx hb hw hN hown hK hP 0 rfl rfl d_mm_unspent_29 ?_
      refine lv_icmp_ge (pc := 32) (tgt := 39) hx hb d_mm_unspent_32 rfl (fun hc => ?_) (fun hc => ?_)
      · have h := mo_t hc h
        exact B39 _ (lv_sub hl [1, 2, 3, 0] rfl) h
      · have h := mo_f hc h
        refine lv_iconst (pc := 35) (v := 1) hx hb d_mm_unspent_35 (by decide) ?_
        refine lv_goto (pc := 36) (tgt := 40) hx hb d_mm_unspent_36 rfl ?_
        exact B40 1 _ (lv_sub hl [1, 2, 3, 0] rfl) h
  obtain ⟨j21, ej21, h⟩ := mo_jn_e h
  have B21 : ∀ (ls : Array Slot) (hl : lv_has ls 5 [(0, .ref a_this), (1, .int x1), (2, .int x2)]) (h : j21 = some o), W p l e rm_mm_unspent s m args below meth c s.heap [] 0 0 Q (F0 m 21 ls []) := by
    intro ls hl h
    have h := mo_a0 ej21 h
    refine lv_iconst (pc := 21) (v := 0) hx hb d_mm_unspent_21 (by decide) ?_
    exact B22 0 _ (lv_sub hl [0, 1, 2] rfl) h
  refine lv_icmp_lt (pc := 3) (tgt := 21) hx hb d_mm_unspent_3 rfl (fun hc => ?_) (fun hc => ?_)
  · have h := mo_t hc h
    exact B21 _ (lv_sub hl [0, 1, 2] rfl) h
  · have h := mo_f hc h
    refine lv_iload_n (pc := 6) hx hb d_mm_unspent_6 rfl (lv_at hl 1 rfl) ?_
    refine lv_bipush (pc := 7) (v := 100) hx hb d_mm_unspent_7 (by decide) ?_
    refine lv_isub (pc := 9) hx hb d_mm_unspent_9 ?_
    refine lv_aload_n (pc := 10) hx hb d_mm_unspent_10 rfl (lv_at hl 0 rfl) ?_
    refine gf_mm_34 (pc := 11) hx hb hw hN hown hK hP 0 rfl rfl d_mm_unspent_11 ?_
    refine lv_icmp_ge (pc := 14) (tgt := 21) hx hb d_mm_unspent_14 rfl (fun hc => ?_) (fun hc => ?_)
    · have h := mo_t hc h
      exact B21 _ (lv_sub hl [0, 1, 2] rfl) h
    · have h := mo_f hc h
      refine lv_iconst (pc := 17) (v := 1) hx hb d_mm_unspent_17 (by decide) ?_
      refine lv_goto (pc := 18) (tgt := 22) hx hb d_mm_unspent_18 rfl ?_
      exact B22 1 _ (lv_sub hl [0, 1, 2] rfl) h
set_option maxRecDepth 100000 in
set_option maxHeartbeats 4000000 in
theorem c_mm_pool (l : Launch) (D : va_G) (cI cL cZ : ClassId) (a_this : Nat) (a_pool : Nat) (a_inputs : Nat) (a_outputs : Nat) (a_source : Nat) (a_index : Nat) (a_secret : Nat) (a_lock : Nat) (a_amount : Nat) (a_id : Nat) (a_parents : Nat) (a_parent : Nat) (a_holds : Nat) (a_held : Nat) (a_blockLock : Nat) (a_hash : Nat) (a_past : Nat) (a_blues : Nat) (a_score : Nat) (a_selected : Nat) (a_orphan : Nat) (a_order : Nat) (a_merged : Nat) (a_accepted : Nat) (a_free : Nat) (a_coin : Nat) (a_worth : Nat) (v_limit : Int32) (v_made : Int32) (v_blocks : Int32) (v_dag : Int64) (v_orphans : Int32) (v_pooled : Int32) (v_places : Int32) (f_pool : Nat → Int32) (x1 : Int32) (o : Int32) (h : m_mm_pool v_pooled f_pool x1 = some o) : Met l y_mm_pool (Cond.code y_mm_pool b_mm_pool 2 (some .int) :: WG) rm_mm_pool (va_Pc [.ref a_this, .int x1] (mo_Pr D [(cI, .int), (cL, .long), (cZ, .boolean)] [(a_this, .inr (7, [.int v_limit, .int v_made, .ref a_inputs, .ref a_outputs, .ref a_source, .ref a_index, .ref a_secret, .ref a_lock, .ref a_amount, .ref a_id, .int v_blocks, .ref a_parents, .ref a_parent, .ref a_holds, .ref a_held, .ref a_blockLock, .ref a_hash, .long v_dag, .ref a_past, .ref a_blues, .ref a_score, .ref a_selected, .int v_orphans, .ref a_orphan, .int v_pooled, .ref a_pool, .int v_places, .ref a_order, .ref a_merged, .ref a_accepted, .ref a_free, .ref a_coin, .ref a_worth])), (a_pool, .inl (cI, 8, .inl f_pool))])) (mo_Qr (some (.int o))) 0 0 (fun _ => False) := by
  refine mo_start (by decide) (Nat.le_of_ble_eq_true rfl) ?_
  intro p e s m args below meth c hx hb hr hlocks hml hown hw hv ls hl Q hQ
  obtain ⟨hP, hK, hN⟩ := hv
  have hl : lv_has ls 2 [(0, .ref a_this), (1, .int x1)] := hl
  unfold m_mm_pool at h
  refine lv_iload_n (pc := 0) hx hb d_mm_pool_0 rfl (lv_at hl 1 rfl) ?_
  obtain ⟨j12, ej12, h⟩ := mo_jn_e h
  have B12 : ∀ (ls : Array Slot) (hl : lv_has ls 2 []) (h : j12 = some o), W p l e rm_mm_pool s m args below meth c s.heap [] 0 0 Q (F0 m 12 ls []) := by
    intro ls hl h
    have h := mo_a0 ej12 h
    refine lv_iconst (pc := 12) (v := (-1)) hx hb d_mm_pool_12 (by decide) ?_
    refine lv_goto (pc := 13) (tgt := 22) hx hb d_mm_pool_13 rfl ?_
    exact mo_retIr hx hb hr hlocks hQ h d_mm_pool_22
  refine lv_if_lt (pc := 1) (tgt := 12) hx hb d_mm_pool_1 rfl (fun hc => ?_) (fun hc => ?_)
  · have h := mo_t hc h
    exact B12 _ (lv_sub hl [] rfl) h
  · have h := mo_f hc h
    refine lv_iload_n (pc := 4) hx hb d_mm_pool_4 rfl (lv_at hl 1 rfl) ?_
    refine lv_aload_n (pc := 5) hx hb d_mm_pool_5 rfl (lv_at hl 0 rfl) ?_
    refine gf_mm_183 (pc := 6) hx hb hw hN hown hK hP 0 rfl rfl d_mm_pool_6 ?_
    refine lv_icmp_lt (pc := 9) (tgt := 16) hx hb d_mm_pool_9 rfl (fun hc => ?_) (fun hc => ?_)
    · have h := mo_t hc h
      refine lv_aload_n (pc := 16) hx hb d_mm_pool_16 rfl (lv_at hl 0 rfl) ?_
      refine gf_mm_76 (pc := 17) hx hb hw hN hown hK hP 0 rfl rfl d_mm_pool_17 ?_
      refine lv_iload_n (pc := 20) hx hb d_mm_pool_20 rfl (lv_at hl 1 rfl) ?_
      obtain ⟨v21, hi21, e21, h⟩ := mo_rI_e h
      refine mo_iald (pc := 21) hx hb hK hP 1 0 rfl rfl hi21 e21 d_mm_pool_21 ?_
      exact mo_retIr hx hb hr hlocks hQ h d_mm_pool_22
    · have h := mo_f hc h
      exact B12 _ (lv_sub hl [] rfl) h
set_option maxRecDepth 100000 in
set_option maxHeartbeats 4000000 in
theorem c_mm_wanted (l : Launch) (D : va_G) (cI cL cZ : ClassId) (a_this : Nat) (a_orphan : Nat) (a_parents : Nat) (a_parent : Nat) (a_inputs : Nat) (a_outputs : Nat) (a_source : Nat) (a_index : Nat) (a_secret : Nat) (a_lock : Nat) (a_amount : Nat) (a_id : Nat) (a_holds : Nat) (a_held : Nat) (a_blockLock : Nat) (a_hash : Nat) (a_past : Nat) (a_blues : Nat) (a_score : Nat) (a_selected : Nat) (a_pool : Nat) (a_order : Nat) (a_merged : Nat) (a_accepted : Nat) (a_free : Nat) (a_coin : Nat) (a_worth : Nat) (v_limit : Int32) (v_made : Int32) (v_blocks : Int32) (v_dag : Int64) (v_orphans : Int32) (v_pooled : Int32) (v_places : Int32) (f_orphan : Nat → Int32) (f_parents : Nat → Int32) (f_parent : Nat → Int32) (x1 : Int32) (o : Int32) (h : m_mm_wanted v_blocks v_dag v_orphans f_orphan f_parents f_parent x1 = some o) : Met l y_mm_wanted (Cond.code y_mm_wanted b_mm_wanted 7 (some .int) :: WG) rm_mm_wanted (va_Pc [.ref a_this, .int x1] (mo_Pr D [(cI, .int), (cL, .long), (cZ, .boolean)] [(a_this, .inr (7, [.int v_limit, .int v_made, .ref a_inputs, .ref a_outputs, .ref a_source, .ref a_index, .ref a_secret, .ref a_lock, .ref a_amount, .ref a_id, .int v_blocks, .ref a_parents, .ref a_parent, .ref a_holds, .ref a_held, .ref a_blockLock, .ref a_hash, .long v_dag, .ref a_past, .ref a_blues, .ref a_score, .ref a_selected, .int v_orphans, .ref a_orphan, .int v_pooled, .ref a_pool, .int v_places, .ref a_order, .ref a_merged, .ref a_accepted, .ref a_free, .ref a_coin, .ref a_worth])), (a_orphan, .inl (cI, 4, .inl f_orphan)), (a_parents, .inl (cI, 62, .inl f_parents)), (a_parent, .inl (cI, 248, .inl f_parent))])) (mo_Qr (some (.int o))) 0 0 (fun _ => False) := by
  refine mo_start (by decide) (Nat.le_of_ble_eq_true rfl) ?_
  intro p e s m args below meth c hx hb hr hlocks hml hown hw hv ls hl Q hQ
  obtain ⟨hP, hK, hN⟩ := hv
  have hl : lv_has ls 7 [(0, .ref a_this), (1, .int x1)] := hl
  unfold m_mm_wanted at h
  refine lv_iconst (pc := 0) (v := 0) hx hb d_mm_wanted_0 (by decide) ?_
  refine lv_istore_n (pc := 1) (lv' := [(2, .int 0), (0, .ref a_this), (1, .int x1)]) hx hb d_mm_wanted_1 rfl hl (by decide) rfl (fun ls hl => ?_)
  refine lv_iconst (pc := 2) (v := 0) hx hb d_mm_wanted_2 (by decide) ?_
  refine lv_istore_n (pc := 3) (lv' := [(3, .int 0), (2, .int 0), (0, .ref a_this), (1, .int x1)]) hx hb d_mm_wanted_3 rfl hl (by decide) rfl (fun ls hl => ?_)
  exact mo_lp_i (step := (m_mm_wanted_L4 v_blocks v_dag v_orphans f_orphan f_parents f_parent x1)) (o := o) (fun (x : Int32 × Int32) => match x with | (z4_2, z4_3) => ∀ (ls : Array Slot) (hl : lv_has ls 7 [(0, .ref a_this), (1, .int x1), (2, .int z4_2), (3, .int z4_3)]), W p l e rm_mm_wanted s m args below meth c s.heap [] 0 0 Q (F0 m 4 ls [])) (by
      rintro bk4 hb4 ⟨z4_2, z4_3⟩ h ls hl
      unfold m_mm_wanted_L4 at h
      try dsimp only at h
      refine lv_iload_n (pc := 4) hx hb d_mm_wanted_4 rfl (lv_at hl 3 rfl) ?_
      refine lv_aload_n (pc := 5) hx hb d_mm_wanted_5 rfl (lv_at hl 0 rfl) ?_
      refine gf_mm_34 (pc := 6) hx hb hw hN hown hK hP 0 rfl rfl d_mm_wanted_6 ?_
      refine lv_icmp_ge (pc := 9) (tgt := 154) hx hb d_mm_wanted_9 rfl (fun hc => ?_) (fun hc => ?_)
      · have h := mo_t hc h
        refine lv_iconst (pc := 154) (v := (-1)) hx hb d_mm_wanted_154 (by decide) ?_
        exact mo_retIr hx hb hr hlocks hQ h d_mm_wanted_155
      · have h := mo_f hc h
        refine lv_iconst (pc := 12) (v := 0) hx hb d_mm_wanted_12 (by decide) ?_
        refine lv_istore (pc := 13) (lv' := [(4, .int 0), (0, .ref a_this), (1, .int x1), (2, .int z4_2), (3, .int z4_3)]) hx hb d_mm_wanted_13 hl (by decide) rfl (fun ls hl => ?_)
        refine lv_iconst (pc := 15) (v := 0) hx hb d_mm_wanted_15 (by decide) ?_
        refine lv_istore (pc := 16) (lv' := [(5, .int 0), (4, .int 0), (0, .ref a_this), (1, .int x1), (2, .int z4_2), (3, .int z4_3)]) hx hb d_mm_wanted_16 hl (by decide) rfl (fun ls hl => ?_)
        obtain ⟨w18, K18, eK18, hy18, hr18⟩ := mo_bd_k h
        have E18 : ∀ (y18_4 : Int32) (ls : Array Slot) (hl : lv_has ls 7 [(0, .ref a_this), (1, .int x1), (2, .int z4_2), (3, .int z4_3), (4, .int y18_4)]) (h : K18 y18_4 = some o), W p l e rm_mm_wanted s m args below meth c s.heap [] 0 0 Q (F0 m 92 ls []) := by
          intro y18_4 ls hl h
          have h := mo_a1 eK18 h
          try dsimp only at h
          refine lv_iload (pc := 92) hx hb d_mm_wanted_92 (lv_at hl 4 rfl) ?_
          obtain ⟨j121, ej121, h⟩ := mo_jn_e h
          have B121 : ∀ (s121_0 : Int32) (ls : Array Slot) (hl : lv_has ls 7 [(0, .ref a_this), (1, .int x1), (2, .int z4_2), (3, .int z4_3)]) (h : j121 s121_0 = some o), W p l e rm_mm_wanted s m args below meth c s.heap [] 0 0 Q (F0 m 121 ls [.int s121_0]) := by
            intro s121_0 ls hl h
            have h := mo_a1 ej121 h
            refine lv_istore (pc := 121) (lv' := [(4, .int s121_0), (0, .ref a_this), (1, .int x1), (2, .int z4_2), (3, .int z4_3)]) hx hb d_mm_wanted_121 hl (by decide) rfl (fun ls hl => ?_)
            refine lv_iload (pc := 123) hx hb d_mm_wanted_123 (lv_at hl 0 rfl) ?_
            obtain ⟨j135, ej135, h⟩ := mo_jn_e h
            have B135 : ∀ (ls : Array Slot) (hl : lv_has ls 7 [(0, .ref a_this), (1, .int x1), (2, .int z4_2), (3, .int z4_3), (4, .int s121_0)]) (h : j135 = some o), W p l e rm_mm_wanted s m args below meth c s.heap [] 0 0 Q (F0 m 135 ls []) := by
              intro ls hl h
              have h := mo_a0 ej135 h
              refine lv_iload (pc := 135) hx hb d_mm_wanted_135 (lv_at hl 4 rfl) ?_
              obtain ⟨j147, ej147, h⟩ := mo_jn_e h
              have B147 : ∀ (s147_0 : Int32) (ls : Array Slot) (hl : lv_has ls 7 [(0, .ref a_this), (1, .int x1), (3, .int z4_3)]) (h : j147 s147_0 = some o), W p l e rm_mm_wanted s m args below meth c s.heap [] 0 0 Q (F0 m 147 ls [.int s147_0]) := by
                intro s147_0 ls hl h
                have h := mo_a1 ej147 h
                refine lv_istore_n (pc := 147) (lv' := [(2, .int s147_0), (0, .ref a_this), (1, .int x1), (3, .int z4_3)]) hx hb d_mm_wanted_147 rfl hl (by decide) rfl (fun ls hl => ?_)
                refine lv_iinc (pc := 148) (k := 3) (v := z4_3 + 1) (lv' := [(3, .int (z4_3 + 1)), (2, .int s147_0), (0, .ref a_this), (1, .int x1)]) hx hb d_mm_wanted_148 hl rfl (mo_inc1 _) (by decide) rfl (fun ls hl => ?_)
                refine lv_goto (pc := 151) (tgt := 4) hx hb d_mm_wanted_151 rfl ?_
                exact hb4 (s147_0, z4_3 + 1) h _ (lv_sub hl [2, 3, 1, 0] rfl)
              refine lv_if_eq (pc := 137) (tgt := 146) hx hb d_mm_wanted_137 rfl (fun hc => ?_) (fun hc => ?_)
              · have h := mo_t hc h
                refine lv_iload_n (pc := 146) hx hb d_mm_wanted_146 rfl (lv_at hl 2 rfl) ?_
                exact B147 z4_2 _ (lv_sub hl [0, 1, 3] rfl) h
              · have h := mo_f hc h
                refine lv_iload_n (pc := 140) hx hb d_mm_wanted_140 rfl (lv_at hl 2 rfl) ?_
                refine lv_iconst (pc := 141) (v := 1) hx hb d_mm_wanted_141 (by decide) ?_
                refine lv_iadd (pc := 142) hx hb d_mm_wanted_142 ?_
                refine lv_goto (pc := 143) (tgt := 147) hx hb d_mm_wanted_143 rfl ?_
                exact B147 (z4_2 + 1) _ (lv_sub hl [0, 1, 3] rfl) h
            refine lv_if_eq (pc := 125) (tgt := 135) hx hb d_mm_wanted_125 rfl (fun hc => ?_) (fun hc => ?_)
            · have h := mo_t hc h
              exact B135 _ (lv_sub hl [1, 2, 3, 4, 0] rfl) h
            · have h := mo_f hc h
              refine lv_iload_n (pc := 128) hx hb d_mm_wanted_128 rfl (lv_at hl 3 rfl) ?_
              refine lv_iload_n (pc := 129) hx hb d_mm_wanted_129 rfl (lv_at hl 2 rfl) ?_
              refine lv_icmp_ne (pc := 130) (tgt := 135) hx hb d_mm_wanted_130 rfl (fun hc => ?_) (fun hc => ?_)
              · have h := mo_f hc h
                exact B135 _ (lv_sub hl [1, 2, 3, 4, 0] rfl) h
              · have h := mo_t hc h
                refine lv_iload_n (pc := 133) hx hb d_mm_wanted_133 rfl (lv_at hl 4 rfl) ?_
                exact mo_retIr hx hb hr hlocks hQ h d_mm_wanted_134
          obtain ⟨j120, ej120, h⟩ := mo_jn_e h
          have B120 : ∀ (ls : Array Slot) (hl : lv_has ls 7 [(0, .ref a_this), (1, .int x1), (2, .int z4_2), (3, .int z4_3)]) (h : j120 = some o), W p l e rm_mm_wanted s m args below meth c s.heap [] 0 0 Q (F0 m 120 ls []) := by
            intro ls hl h
            have h := mo_a0 ej120 h
            refine lv_iconst (pc := 120) (v := 0) hx hb d_mm_wanted_120 (by decide) ?_
            exact B121 0 _ (lv_sub hl [0, 1, 2, 3] rfl) h
          refine lv_if_eq (pc := 94) (tgt := 120) hx hb d_mm_wanted_94 rfl (fun hc => ?_) (fun hc => ?_)
          · have h := mo_t hc h
            exact B120 _ (lv_sub hl [0, 1, 2, 3] rfl) h
          · have h := mo_f hc h
            refine lv_aload_n (pc := 97) hx hb d_mm_wanted_97 rfl (lv_at hl 0 rfl) ?_
            refine gf_mm_56 (pc := 98) hx hb hw hN hown hK hP 0 rfl rfl d_mm_wanted_98 ?_
            refine lv_iload_n (pc := 101) hx hb d_mm_wanted_101 rfl (lv_at hl 3 rfl) ?_
            obtain ⟨r102, hr102, h⟩ := mo_bd_e h
            refine mo_rS (pc := 102) (As := [.long v_dag, .int z4_3]) (rest := []) (st1 := [.int r102]) ⟨hx, hb, hml, hown, hw⟩ (c_mm_in l D cI cL cZ v_dag z4_3 r102 hr102) (kS_mm_125 hw ⟨by decide, by decide⟩) mo_P0 hK hN rfl hl.1 rfl rfl d_mm_wanted_102 rfl ?_
            refine lv_if_ne (pc := 105) (tgt := 120) hx hb d_mm_wanted_105 rfl (fun hc => ?_) (fun hc => ?_)
            · have h := mo_f hc h
              exact B120 _ (lv_sub hl [0, 1, 2, 3] rfl) h
            · have h := mo_t hc h
              refine lv_aload_n (pc := 108) hx hb d_mm_wanted_108 rfl (lv_at hl 0 rfl) ?_
              refine lv_iload_n (pc := 109) hx hb d_mm_wanted_109 rfl (lv_at hl 3 rfl) ?_
              obtain ⟨r110, hr110, h⟩ := mo_bd_e h
              refine mo_rV (pc := 110) (As := [.int z4_3]) (rest := []) (st1 := [.int r110]) ⟨hx, hb, hml, hown, hw⟩ (c_mm_isOrphan l D cI cL cZ a_this a_orphan a_inputs a_outputs a_source a_index a_secret a_lock a_amount a_id a_parents a_parent a_holds a_held a_blockLock a_hash a_past a_blues a_score a_selected a_pool a_order a_merged a_accepted a_free a_coin a_worth v_limit v_made v_blocks v_dag v_orphans v_pooled v_places f_orphan z4_3 r110 hr110) (kV_mm_192 hw ⟨by decide, by decide⟩) (hP.sub [0, 1] rfl) hK hN rfl rfl rfl hl.1 rfl rfl d_mm_wanted_110 rfl ?_
              refine lv_if_ne (pc := 113) (tgt := 120) hx hb d_mm_wanted_113 rfl (fun hc => ?_) (fun hc => ?_)
              · have h := mo_f hc h
                exact B120 _ (lv_sub hl [0, 1, 2, 3] rfl) h
              · have h := mo_t hc h
                refine lv_iconst (pc := 116) (v := 1) hx hb d_mm_wanted_116 (by decide) ?_
                refine lv_goto (pc := 117) (tgt := 121) hx hb d_mm_wanted_117 rfl ?_
                exact B121 1 _ (lv_sub hl [0, 1, 2, 3] rfl) h
        exact mo_lp_i (step := (m_mm_wanted_L18 v_orphans f_orphan f_parents f_parent z4_3)) (o := w18) (fun (x : Int32 × Int32) => match x with | (z18_4, z18_5) => ∀ (ls : Array Slot) (hl : lv_has ls 7 [(0, .ref a_this), (1, .int x1), (2, .int z4_2), (3, .int z4_3), (4, .int z18_4), (5, .int z18_5)]), W p l e rm_mm_wanted s m args below meth c s.heap [] 0 0 Q (F0 m 18 ls [])) (by
            rintro bk18 hb18 ⟨z18_4, z18_5⟩ h ls hl
            unfold m_mm_wanted_L18 at h
            try dsimp only at h
            refine lv_iload (pc := 18) hx hb d_mm_wanted_18 (lv_at hl 5 rfl) ?_
            refine lv_aload_n (pc := 20) hx hb d_mm_wanted_20 rfl (lv_at hl 0 rfl) ?_
            refine gf_mm_186 (pc := 21) hx hb hw hN hown hK hP 0 rfl rfl d_mm_wanted_21 ?_
            refine lv_icmp_ge (pc := 24) (tgt := 92) hx hb d_mm_wanted_24 rfl (fun hc => ?_) (fun hc => ?_)
            · have h := mo_t hc h
              exact E18 z18_4 _ (lv_sub hl [0, 1, 2, 3, 4] rfl) (by rw [Option.some.inj h]; exact hr18)
            · have h := mo_f hc h
              refine lv_iconst (pc := 27) (v := 0) hx hb d_mm_wanted_27 (by decide) ?_
              refine lv_istore (pc := 28) (lv' := [(6, .int 0), (0, .ref a_this), (1, .int x1), (2, .int z4_2), (3, .int z4_3), (4, .int z18_4), (5, .int z18_5)]) hx hb d_mm_wanted_28 hl (by decide) rfl (fun ls hl => ?_)
              obtain ⟨w30, K30, eK30, hy30, hr30⟩ := mo_bd_k h
              have E30 : ∀ (y30_4 : Int32) (ls : Array Slot) (hl : lv_has ls 7 [(0, .ref a_this), (1, .int x1), (2, .int z4_2), (3, .int z4_3), (4, .int y30_4), (5, .int z18_5)]) (h : K30 y30_4 = some w18), W p l e rm_mm_wanted s m args below meth c s.heap [] 0 0 Q (F0 m 86 ls []) := by
                intro y30_4 ls hl h
                have h := mo_a1 eK30 h
                try dsimp only at h
                refine lv_iinc (pc := 86) (k := 5) (v := z18_5 + 1) (lv' := [(5, .int (z18_5 + 1)), (0, .ref a_this), (1, .int x1), (2, .int z4_2), (3, .int z4_3), (4, .int y30_4)]) hx hb d_mm_wanted_86 hl rfl (mo_inc1 _) (by decide) rfl (fun ls hl => ?_)
                refine lv_goto (pc := 89) (tgt := 18) hx hb d_mm_wanted_89 rfl ?_
                exact hb18 (y30_4, z18_5 + 1) h _ (lv_sub hl [1, 2, 3, 4, 5, 0] rfl)
              exact mo_lp_i (step := (m_mm_wanted_L30 f_orphan f_parents f_parent z4_3 z18_5)) (o := w30) (fun (x : Int32 × Int32) => match x with | (z30_4, z30_6) => ∀ (ls : Array Slot) (hl : lv_has ls 7 [(0, .ref a_this), (1, .int x1), (2, .int z4_2), (3, .int z4_3), (4, .int z30_4), (5, .int z18_5), (6, .int z30_6)]), W p l e rm_mm_wanted s m args below meth c s.heap [] 0 0 Q (F0 m 30 ls [])) (by
                  rintro bk30 hb30 ⟨z30_4, z30_6⟩ h ls hl
                  unfold m_mm_wanted_L30 at h
                  try dsimp only at h
                  refine lv_iload (pc := 30) hx hb d_mm_wanted_30 (lv_at hl 6 rfl) ?_
                  refine lv_aload_n (pc := 32) hx hb d_mm_wanted_32 rfl (lv_at hl 0 rfl) ?_
                  refine gf_mm_38 (pc := 33) hx hb hw hN hown hK hP 0 rfl rfl d_mm_wanted_33 ?_
                  refine lv_aload_n (pc := 36) hx hb d_mm_wanted_36 rfl (lv_at hl 0 rfl) ?_
                  refine gf_mm_73 (pc := 37) hx hb hw hN hown hK hP 0 rfl rfl d_mm_wanted_37 ?_
                  refine lv_iload (pc := 40) hx hb d_mm_wanted_40 (lv_at hl 5 rfl) ?_
                  obtain ⟨v42, hi42, e42, h⟩ := mo_rI_e h
                  refine mo_iald (pc := 42) hx hb hK hP 1 0 rfl rfl hi42 e42 d_mm_wanted_42 ?_
                  obtain ⟨v43, hi43, e43, h⟩ := mo_rI_e h
                  refine mo_iald (pc := 43) hx hb hK hP 2 0 rfl rfl hi43 e43 d_mm_wanted_43 ?_
                  refine lv_icmp_ge (pc := 44) (tgt := 86) hx hb d_mm_wanted_44 rfl (fun hc => ?_) (fun hc => ?_)
                  · have h := mo_t hc h
                    exact E30 z30_4 _ (lv_sub hl [0, 1, 2, 3, 4, 5] rfl) (by rw [Option.some.inj h]; exact hr30)
                  · have h := mo_f hc h
                    refine lv_iload (pc := 47) hx hb d_mm_wanted_47 (lv_at hl 4 rfl) ?_
                    obtain ⟨j78, ej78, h⟩ := mo_jn_e h
                    have B78 : ∀ (s78_0 : Int32) (ls : Array Slot) (hl : lv_has ls 7 [(0, .ref a_this), (1, .int x1), (2, .int z4_2), (3, .int z4_3), (5, .int z18_5), (6, .int z30_6)]) (h : j78 s78_0 = some w30), W p l e rm_mm_wanted s m args below meth c s.heap [] 0 0 Q (F0 m 78 ls [.int s78_0]) := by
                      intro s78_0 ls hl h
                      have h := mo_a1 ej78 h
                      refine lv_istore (pc := 78) (lv' := [(4, .int s78_0), (0, .ref a_this), (1, .int x1), (2, .int z4_2), (3, .int z4_3), (5, .int z18_5), (6, .int z30_6)]) hx hb d_mm_wanted_78 hl (by decide) rfl (fun ls hl => ?_)
                      refine lv_iinc (pc := 80) (k := 6) (v := z30_6 + 1) (lv' := [(6, .int (z30_6 + 1)), (4, .int s78_0), (0, .ref a_this), (1, .int x1), (2, .int z4_2), (3, .int z4_3), (5, .int z18_5)]) hx hb d_mm_wanted_80 hl rfl (mo_inc1 _) (by decide) rfl (fun ls hl => ?_)
                      refine lv_goto (pc := 83) (tgt := 30) hx hb d_mm_wanted_83 rfl ?_
                      exact hb30 (s78_0, z30_6 + 1) h _ (lv_sub hl [2, 3, 4, 5, 1, 6, 0] rfl)
                    obtain ⟨j73, ej73, h⟩ := mo_jn_e h
                    have B73 : ∀ (ls : Array Slot) (hl : lv_has ls 7 [(0, .ref a_this), (1, .int x1), (2, .int z4_2), (3, .int z4_3), (5, .int z18_5), (6, .int z30_6)]) (h : j73 = some w30), W p l e rm_mm_wanted s m args below meth c s.heap [] 0 0 Q (F0 m 73 ls []) := by
                      intro ls hl h
                      have h := mo_a0 ej73 h
                      refine lv_iconst (pc := 73) (v := 1) hx hb d_mm_wanted_73 (by decide) ?_
                      refine lv_goto (pc := 74) (tgt := 78) hx hb d_mm_wanted_74 rfl ?_
                      exact B78 1 _ (lv_sub hl [0, 1, 2, 3, 4, 5] rfl) h
                    refine lv_if_ne (pc := 49) (tgt := 73) hx hb d_mm_wanted_49 rfl (fun hc => ?_) (fun hc => ?_)
                    · have h := mo_f hc h
                      exact B73 _ (lv_sub hl [0, 1, 2, 3, 5, 6] rfl) h
                    · have h := mo_t hc h
                      refine lv_aload_n (pc := 52) hx hb d_mm_wanted_52 rfl (lv_at hl 0 rfl) ?_
                      refine gf_mm_41 (pc := 53) hx hb hw hN hown hK hP 0 rfl rfl d_mm_wanted_53 ?_
                      refine lv_iconst (pc := 56) (v := 4) hx hb d_mm_wanted_56 (by decide) ?_
                      refine lv_aload_n (pc := 57) hx hb d_mm_wanted_57 rfl (lv_at hl 0 rfl) ?_
                      refine gf_mm_73 (pc := 58) hx hb hw hN hown hK hP 0 rfl rfl d_mm_wanted_58 ?_
                      refine lv_iload (pc := 61) hx hb d_mm_wanted_61 (lv_at hl 5 rfl) ?_
                      obtain ⟨v63, hi63, e63, h⟩ := mo_rI_e h
                      refine mo_iald (pc := 63) hx hb hK hP 1 0 rfl rfl hi63 e63 d_mm_wanted_63 ?_
                      refine lv_imul (pc := 64) hx hb d_mm_wanted_64 ?_
                      refine lv_iload (pc := 65) hx hb d_mm_wanted_65 (lv_at hl 6 rfl) ?_
                      refine lv_iadd (pc := 67) hx hb d_mm_wanted_67 ?_
                      obtain ⟨v68, hi68, e68, h⟩ := mo_rI_e h
                      refine mo_iald (pc := 68) hx hb hK hP 3 0 rfl rfl hi68 e68 d_mm_wanted_68 ?_
                      refine lv_iload_n (pc := 69) hx hb d_mm_wanted_69 rfl (lv_at hl 3 rfl) ?_
                      refine lv_icmp_ne (pc := 70) (tgt := 77) hx hb d_mm_wanted_70 rfl (fun hc => ?_) (fun hc => ?_)
                      · have h := mo_f hc h
                        refine lv_iconst (pc := 77) (v := 0) hx hb d_mm_wanted_77 (by decide) ?_
                        exact B78 0 _ (lv_sub hl [0, 1, 2, 3, 5, 6] rfl) h
                      · have h := mo_t hc h
                        exact B73 _ (lv_sub hl [0, 1, 2, 3, 5, 6] rfl) h
                ) _ _ hy30 _ (lv_sub hl [1, 2, 3, 4, 5, 6, 0] rfl)
          ) _ _ hy18 _ (lv_sub hl [2, 3, 4, 5, 1, 0] rfl)
    ) _ _ h _ (lv_sub hl [2, 3, 1, 0] rfl)
set_option maxRecDepth 100000 in
set_option maxHeartbeats 4000000 in
theorem c_mm_parentOf (l : Launch) (D : va_G) (cI cL cZ : ClassId) (a_this : Nat) (a_parents : Nat) (a_parent : Nat) (a_inputs : Nat) (a_outputs : Nat) (a_source : Nat) (a_index : Nat) (a_secret : Nat) (a_lock : Nat) (a_amount : Nat) (a_id : Nat) (a_holds : Nat) (a_held : Nat) (a_blockLock : Nat) (a_hash : Nat) (a_past : Nat) (a_blues : Nat) (a_score : Nat) (a_selected : Nat) (a_orphan : Nat) (a_pool : Nat) (a_order : Nat) (a_merged : Nat) (a_accepted : Nat) (a_free : Nat) (a_coin : Nat) (a_worth : Nat) (v_limit : Int32) (v_made : Int32) (v_blocks : Int32) (v_dag : Int64) (v_orphans : Int32) (v_pooled : Int32) (v_places : Int32) (f_parents : Nat → Int32) (f_parent : Nat → Int32) (x1 : Int32) (x2 : Int32) (o : Int32) (h : m_mm_parentOf v_blocks f_parents f_parent x1 x2 = some o) : Met l y_mm_parentOf (Cond.code y_mm_parentOf b_mm_parentOf 3 (some .int) :: WG) rm_mm_parentOf (va_Pc [.ref a_this, .int x1, .int x2] (mo_Pr D [(cI, .int), (cL, .long), (cZ, .boolean)] [(a_this, .inr (7, [.int v_limit, .int v_made, .ref a_inputs, .ref a_outputs, .ref a_source, .ref a_index, .ref a_secret, .ref a_lock, .ref a_amount, .ref a_id, .int v_blocks, .ref a_parents, .ref a_parent, .ref a_holds, .ref a_held, .ref a_blockLock, .ref a_hash, .long v_dag, .ref a_past, .ref a_blues, .ref a_score, .ref a_selected, .int v_orphans, .ref a_orphan, .int v_pooled, .ref a_pool, .int v_places, .ref a_order, .ref a_merged, .ref a_accepted, .ref a_free, .ref a_coin, .ref a_worth])), (a_parents, .inl (cI, 62, .inl f_parents)), (a_parent, .inl (cI, 248, .inl f_parent))])) (mo_Qr (some (.int o))) 0 0 (fun _ => False) := by
  refine mo_start (by decide) (Nat.le_of_ble_eq_true rfl) ?_
  intro p e s m args below meth c hx hb hr hlocks hml hown hw hv ls hl Q hQ
  obtain ⟨hP, hK, hN⟩ := hv
  have hl : lv_has ls 3 [(0, .ref a_this), (1, .int x1), (2, .int x2)] := hl
  unfold m_mm_parentOf at h
  refine lv_aload_n (pc := 0) hx hb d_mm_parentOf_0 rfl (lv_at hl 0 rfl) ?_
  refine lv_iload_n (pc := 1) hx hb d_mm_parentOf_1 rfl (lv_at hl 1 rfl) ?_
  obtain ⟨r2, hr2, h⟩ := mo_bd_e h
  refine mo_rV (pc := 2) (As := [.int x1]) (rest := []) (st1 := [.int r2]) ⟨hx, hb, hml, hown, hw⟩ (c_mm_isBlock l D cI cL cZ a_this a_inputs a_outputs a_source a_index a_secret a_lock a_amount a_id a_parents a_parent a_holds a_held a_blockLock a_hash a_past a_blues a_score a_selected a_orphan a_pool a_order a_merged a_accepted a_free a_coin a_worth v_limit v_made v_blocks v_dag v_orphans v_pooled v_places x1 r2 hr2) (kV_mm_113 hw ⟨by decide, by decide⟩) (hP.sub [0] rfl) hK hN rfl rfl rfl hl.1 rfl rfl d_mm_parentOf_2 rfl ?_
  obtain ⟨j22, ej22, h⟩ := mo_jn_e h
  have B22 : ∀ (ls : Array Slot) (hl : lv_has ls 3 []) (h : j22 = some o), W p l e rm_mm_parentOf s m args below meth c s.heap [] 0 0 Q (F0 m 22 ls []) := by
    intro ls hl h
    have h := mo_a0 ej22 h
    refine lv_iconst (pc := 22) (v := (-1)) hx hb d_mm_parentOf_22 (by decide) ?_
    refine lv_goto (pc := 23) (tgt := 36) hx hb d_mm_parentOf_23 rfl ?_
    exact mo_retIr hx hb hr hlocks hQ h d_mm_parentOf_36
  refine lv_if_eq (pc := 5) (tgt := 22) hx hb d_mm_parentOf_5 rfl (fun hc => ?_) (fun hc => ?_)
  · have h := mo_t hc h
    exact B22 _ (lv_sub hl [] rfl) h
  · have h := mo_f hc h
    refine lv_iload_n (pc := 8) hx hb d_mm_parentOf_8 rfl (lv_at hl 2 rfl) ?_
    refine lv_if_lt (pc := 9) (tgt := 22) hx hb d_mm_parentOf_9 rfl (fun hc => ?_) (fun hc => ?_)
    · have h := mo_t hc h
      exact B22 _ (lv_sub hl [] rfl) h
    · have h := mo_f hc h
      refine lv_iload_n (pc := 12) hx hb d_mm_parentOf_12 rfl (lv_at hl 2 rfl) ?_
      refine lv_aload_n (pc := 13) hx hb d_mm_parentOf_13 rfl (lv_at hl 0 rfl) ?_
      refine gf_mm_38 (pc := 14) hx hb hw hN hown hK hP 0 rfl rfl d_mm_parentOf_14 ?_
      refine lv_iload_n (pc := 17) hx hb d_mm_parentOf_17 rfl (lv_at hl 1 rfl) ?_
      obtain ⟨v18, hi18, e18, h⟩ := mo_rI_e h
      refine mo_iald (pc := 18) hx hb hK hP 1 0 rfl rfl hi18 e18 d_mm_parentOf_18 ?_
      refine lv_icmp_lt (pc := 19) (tgt := 26) hx hb d_mm_parentOf_19 rfl (fun hc => ?_) (fun hc => ?_)
      · have h := mo_t hc h
        refine lv_aload_n (pc := 26) hx hb d_mm_parentOf_26 rfl (lv_at hl 0 rfl) ?_
        refine gf_mm_41 (pc := 27) hx hb hw hN hown hK hP 0 rfl rfl d_mm_parentOf_27 ?_
        refine lv_iconst (pc := 30) (v := 4) hx hb d_mm_parentOf_30 (by decide) ?_
        refine lv_iload_n (pc := 31) hx hb d_mm_parentOf_31 rfl (lv_at hl 1 rfl) ?_
        refine lv_imul (pc := 32) hx hb d_mm_parentOf_32 ?_
        refine lv_iload_n (pc := 33) hx hb d_mm_parentOf_33 rfl (lv_at hl 2 rfl) ?_
        refine lv_iadd (pc := 34) hx hb d_mm_parentOf_34 ?_
        obtain ⟨v35, hi35, e35, h⟩ := mo_rI_e h
        refine mo_iald (pc := 35) hx hb hK hP 2 0 rfl rfl hi35 e35 d_mm_parentOf_35 ?_
        exact mo_retIr hx hb hr hlocks hQ h d_mm_parentOf_36
      · have h := mo_f hc h
        exact B22 _ (lv_sub hl [] rfl) h
set_option maxRecDepth 100000 in
set_option maxHeartbeats 4000000 in
theorem c_mm_count (l : Launch) (D : va_G) (cI cL cZ : ClassId) (a_this : Nat) (a_accepted : Nat) (a_parents : Nat) (a_parent : Nat) (a_score : Nat) (a_selected : Nat) (a_id : Nat) (a_inputs : Nat) (a_outputs : Nat) (a_source : Nat) (a_index : Nat) (a_secret : Nat) (a_lock : Nat) (a_amount : Nat) (a_holds : Nat) (a_held : Nat) (a_blockLock : Nat) (a_hash : Nat) (a_past : Nat) (a_blues : Nat) (a_orphan : Nat) (a_pool : Nat) (a_order : Nat) (a_merged : Nat) (a_free : Nat) (a_coin : Nat) (a_worth : Nat) (v_limit : Int32) (v_made : Int32) (v_blocks : Int32) (v_dag : Int64) (v_orphans : Int32) (v_pooled : Int32) (v_places : Int32) (f_accepted : Nat → Int32) (f_parents : Nat → Int32) (f_parent : Nat → Int32) (f_score : Nat → Int32) (f_selected : Nat → Int32) (f_id : Nat → Int32) (x1 : Int32) (o : Int32) (h : m_mm_count v_made v_blocks v_dag v_orphans v_pooled f_accepted f_parents f_parent f_score f_selected f_id x1 = some o) : Met l y_mm_count (Cond.code y_mm_count b_mm_count 4 (some .int) :: WG) rm_mm_count (va_Pc [.ref a_this, .int x1] (mo_Pr D [(cI, .int), (cL, .long), (cZ, .boolean)] [(a_this, .inr (7, [.int v_limit, .int v_made, .ref a_inputs, .ref a_outputs, .ref a_source, .ref a_index, .ref a_secret, .ref a_lock, .ref a_amount, .ref a_id, .int v_blocks, .ref a_parents, .ref a_parent, .ref a_holds, .ref a_held, .ref a_blockLock, .ref a_hash, .long v_dag, .ref a_past, .ref a_blues, .ref a_score, .ref a_selected, .int v_orphans, .ref a_orphan, .int v_pooled, .ref a_pool, .int v_places, .ref a_order, .ref a_merged, .ref a_accepted, .ref a_free, .ref a_coin, .ref a_worth])), (a_accepted, .inl (cZ, 40, .inl f_accepted)), (a_parents, .inl (cI, 62, .inl f_parents)), (a_parent, .inl (cI, 248, .inl f_parent)), (a_score, .inl (cI, 61, .inl f_score)), (a_selected, .inl (cI, 61, .inl f_selected)), (a_id, .inl (cI, 41, .inl f_id))])) (mo_Qr (some (.int o))) 0 0 (fun _ => False) := by
  refine mo_start (by decide) (Nat.le_of_ble_eq_true rfl) ?_
  intro p e s m args below meth c hx hb hr hlocks hml hown hw hv ls hl Q hQ
  obtain ⟨hP, hK, hN⟩ := hv
  have hl : lv_has ls 4 [(0, .ref a_this), (1, .int x1)] := hl
  unfold m_mm_count at h
  refine lv_iconst (pc := 0) (v := 0) hx hb d_mm_count_0 (by decide) ?_
  refine lv_istore_n (pc := 1) (lv' := [(2, .int 0), (0, .ref a_this), (1, .int x1)]) hx hb d_mm_count_1 rfl hl (by decide) rfl (fun ls hl => ?_)
  refine lv_iconst (pc := 2) (v := 0) hx hb d_mm_count_2 (by decide) ?_
  refine lv_istore_n (pc := 3) (lv' := [(3, .int 0), (2, .int 0), (0, .ref a_this), (1, .int x1)]) hx hb d_mm_count_3 rfl hl (by decide) rfl (fun ls hl => ?_)
  obtain ⟨w4, K4, eK4, hy4, hr4⟩ := mo_bd_k h
  have E4 : ∀ (y4_2 : Int32) (ls : Array Slot) (hl : lv_has ls 4 [(0, .ref a_this), (1, .int x1), (2, .int y4_2)]) (h : K4 y4_2 = some o), W p l e rm_mm_count s m args below meth c s.heap [] 0 0 Q (F0 m 35 ls []) := by
    intro y4_2 ls hl h
    have h := mo_a1 eK4 h
    try dsimp only at h
    refine lv_iload_n (pc := 35) hx hb d_mm_count_35 rfl (lv_at hl 1 rfl) ?_
    refine lv_iconst (pc := 36) (v := 4) hx hb d_mm_count_36 (by decide) ?_
    refine lv_icmp_ge (pc := 37) (tgt := 95) hx hb d_mm_count_37 rfl (fun hc => ?_) (fun hc => ?_)
    · have h := mo_t hc h
      refine lv_iload_n (pc := 95) hx hb d_mm_count_95 rfl (lv_at hl 1 rfl) ?_
      refine lv_bipush (pc := 96) (v := 7) hx hb d_mm_count_96 (by decide) ?_
      refine lv_icmp_ge (pc := 98) (tgt := 127) hx hb d_mm_count_98 rfl (fun hc => ?_) (fun hc => ?_)
      · have h := mo_t hc h
        refine lv_iload_n (pc := 127) hx hb d_mm_count_127 rfl (lv_at hl 1 rfl) ?_
        refine lv_bipush (pc := 128) (v := 7) hx hb d_mm_count_128 (by decide) ?_
        refine lv_icmp_ne (pc := 130) (tgt := 143) hx hb d_mm_count_130 rfl (fun hc => ?_) (fun hc => ?_)
        · have h := mo_f hc h
          refine lv_iload_n (pc := 143) hx hb d_mm_count_143 rfl (lv_at hl 1 rfl) ?_
          refine lv_bipush (pc := 144) (v := 8) hx hb d_mm_count_144 (by decide) ?_
          refine lv_icmp_ne (pc := 146) (tgt := 159) hx hb d_mm_count_146 rfl (fun hc => ?_) (fun hc => ?_)
          · have h := mo_f hc h
            refine lv_iload_n (pc := 159) hx hb d_mm_count_159 rfl (lv_at hl 1 rfl) ?_
            refine lv_bipush (pc := 160) (v := 9) hx hb d_mm_count_160 (by decide) ?_
            refine lv_icmp_ne (pc := 162) (tgt := 190) hx hb d_mm_count_162 rfl (fun hc => ?_) (fun hc => ?_)
            · have h := mo_f hc h
              refine lv_iconst (pc := 190) (v := (-1)) hx hb d_mm_count_190 (by decide) ?_
              exact mo_retIr hx hb hr hlocks hQ h d_mm_count_191
            · have h := mo_t hc h
              refine lv_aload_n (pc := 165) hx hb d_mm_count_165 rfl (lv_at hl 0 rfl) ?_
              refine gf_mm_110 (pc := 166) hx hb hw hN hown hK hP 0 rfl rfl d_mm_count_166 ?_
              refine lv_if_ne (pc := 169) (tgt := 176) hx hb d_mm_count_169 rfl (fun hc => ?_) (fun hc => ?_)
              · have h := mo_f hc h
                refine lv_aload_n (pc := 176) hx hb d_mm_count_176 rfl (lv_at hl 0 rfl) ?_
                refine gf_mm_31 (pc := 177) hx hb hw hN hown hK hP 0 rfl rfl d_mm_count_177 ?_
                refine lv_aload_n (pc := 180) hx hb d_mm_count_180 rfl (lv_at hl 0 rfl) ?_
                refine gf_mm_110 (pc := 181) hx hb hw hN hown hK hP 0 rfl rfl d_mm_count_181 ?_
                refine lv_iconst (pc := 184) (v := 1) hx hb d_mm_count_184 (by decide) ?_
                refine lv_isub (pc := 185) hx hb d_mm_count_185 ?_
                obtain ⟨v186, hi186, e186, h⟩ := mo_rI_e h
                refine mo_iald (pc := 186) hx hb hK hP 6 0 rfl rfl hi186 e186 d_mm_count_186 ?_
                refine lv_goto (pc := 187) (tgt := 191) hx hb d_mm_count_187 rfl ?_
                exact mo_retIr hx hb hr hlocks hQ h d_mm_count_191
              · have h := mo_t hc h
                refine lv_iconst (pc := 172) (v := 0) hx hb d_mm_count_172 (by decide) ?_
                refine lv_goto (pc := 173) (tgt := 191) hx hb d_mm_count_173 rfl ?_
                exact mo_retIr hx hb hr hlocks hQ h d_mm_count_191
          · have h := mo_t hc h
            refine lv_aload_n (pc := 149) hx hb d_mm_count_149 rfl (lv_at hl 0 rfl) ?_
            refine gf_mm_70 (pc := 150) hx hb hw hN hown hK hP 0 rfl rfl d_mm_count_150 ?_
            refine lv_bipush (pc := 153) (v := 60) hx hb d_mm_count_153 (by decide) ?_
            obtain ⟨v155, hi155, e155, h⟩ := mo_rI_e h
            refine mo_iald (pc := 155) hx hb hK hP 5 0 rfl rfl hi155 e155 d_mm_count_155 ?_
            refine lv_goto (pc := 156) (tgt := 191) hx hb d_mm_count_156 rfl ?_
            exact mo_retIr hx hb hr hlocks hQ h d_mm_count_191
        · have h := mo_t hc h
          refine lv_aload_n (pc := 133) hx hb d_mm_count_133 rfl (lv_at hl 0 rfl) ?_
          refine gf_mm_67 (pc := 134) hx hb hw hN hown hK hP 0 rfl rfl d_mm_count_134 ?_
          refine lv_bipush (pc := 137) (v := 60) hx hb d_mm_count_137 (by decide) ?_
          obtain ⟨v139, hi139, e139, h⟩ := mo_rI_e h
          refine mo_iald (pc := 139) hx hb hK hP 4 0 rfl rfl hi139 e139 d_mm_count_139 ?_
          refine lv_goto (pc := 140) (tgt := 191) hx hb d_mm_count_140 rfl ?_
          exact mo_retIr hx hb hr hlocks hQ h d_mm_count_191
      · have h := mo_f hc h
        refine lv_iload_n (pc := 101) hx hb d_mm_count_101 rfl (lv_at hl 1 rfl) ?_
        refine lv_iconst (pc := 102) (v := 4) hx hb d_mm_count_102 (by decide) ?_
        refine lv_icmp_ne (pc := 103) (tgt := 113) hx hb d_mm_count_103 rfl (fun hc => ?_) (fun hc => ?_)
        · have h := mo_f hc h
          refine lv_iload_n (pc := 113) hx hb d_mm_count_113 rfl (lv_at hl 1 rfl) ?_
          refine lv_iconst (pc := 114) (v := 5) hx hb d_mm_count_114 (by decide) ?_
          refine lv_icmp_ne (pc := 115) (tgt := 125) hx hb d_mm_count_115 rfl (fun hc => ?_) (fun hc => ?_)
          · have h := mo_f hc h
            refine lv_iload_n (pc := 125) hx hb d_mm_count_125 rfl (lv_at hl 2 rfl) ?_
            exact mo_retIr hx hb hr hlocks hQ h d_mm_count_126
          · have h := mo_t hc h
            refine lv_aload_n (pc := 118) hx hb d_mm_count_118 rfl (lv_at hl 0 rfl) ?_
            refine gf_mm_183 (pc := 119) hx hb hw hN hown hK hP 0 rfl rfl d_mm_count_119 ?_
            refine lv_goto (pc := 122) (tgt := 126) hx hb d_mm_count_122 rfl ?_
            exact mo_retIr hx hb hr hlocks hQ h d_mm_count_126
        · have h := mo_t hc h
          refine lv_aload_n (pc := 106) hx hb d_mm_count_106 rfl (lv_at hl 0 rfl) ?_
          refine gf_mm_186 (pc := 107) hx hb hw hN hown hK hP 0 rfl rfl d_mm_count_107 ?_
          refine lv_goto (pc := 110) (tgt := 126) hx hb d_mm_count_110 rfl ?_
          exact mo_retIr hx hb hr hlocks hQ h d_mm_count_126
    · have h := mo_f hc h
      refine lv_iload_n (pc := 40) hx hb d_mm_count_40 rfl (lv_at hl 1 rfl) ?_
      refine lv_if_ne (pc := 41) (tgt := 51) hx hb d_mm_count_41 rfl (fun hc => ?_) (fun hc => ?_)
      · have h := mo_f hc h
        refine lv_iload_n (pc := 51) hx hb d_mm_count_51 rfl (lv_at hl 1 rfl) ?_
        refine lv_iconst (pc := 52) (v := 1) hx hb d_mm_count_52 (by decide) ?_
        refine lv_icmp_ne (pc := 53) (tgt := 63) hx hb d_mm_count_53 rfl (fun hc => ?_) (fun hc => ?_)
        · have h := mo_f hc h
          refine lv_iload_n (pc := 63) hx hb d_mm_count_63 rfl (lv_at hl 1 rfl) ?_
          refine lv_iconst (pc := 64) (v := 2) hx hb d_mm_count_64 (by decide) ?_
          refine lv_icmp_ne (pc := 65) (tgt := 78) hx hb d_mm_count_65 rfl (fun hc => ?_) (fun hc => ?_)
          · have h := mo_f hc h
            refine lv_iload_n (pc := 78) hx hb d_mm_count_78 rfl (lv_at hl 1 rfl) ?_
            refine lv_iconst (pc := 79) (v := 3) hx hb d_mm_count_79 (by decide) ?_
            refine lv_icmp_ne (pc := 80) (tgt := 93) hx hb d_mm_count_80 rfl (fun hc => ?_) (fun hc => ?_)
            · have h := mo_f hc h
              refine lv_iconst (pc := 93) (v := (-1)) hx hb d_mm_count_93 (by decide) ?_
              exact mo_retIr hx hb hr hlocks hQ h d_mm_count_94
            · have h := mo_t hc h
              refine lv_aload_n (pc := 83) hx hb d_mm_count_83 rfl (lv_at hl 0 rfl) ?_
              obtain ⟨r84, hr84, h⟩ := mo_bd_e h
              refine mo_rV (pc := 84) (As := []) (rest := []) (st1 := [.long r84]) ⟨hx, hb, hml, hown, hw⟩ (c_mm_tips l D cI cL cZ a_this a_parents a_parent a_inputs a_outputs a_source a_index a_secret a_lock a_amount a_id a_holds a_held a_blockLock a_hash a_past a_blues a_score a_selected a_orphan a_pool a_order a_merged a_accepted a_free a_coin a_worth v_limit v_made v_blocks v_dag v_orphans v_pooled v_places f_parents f_parent r84 hr84) (kV_mm_147 hw ⟨by decide, by decide⟩) (hP.sub [0, 2, 3] rfl) hK hN rfl rfl rfl hl.1 rfl rfl d_mm_count_84 rfl ?_
              obtain ⟨r87, hr87, h⟩ := mo_bd_e h
              refine mo_rS (pc := 87) (As := [.long r84]) (rest := []) (st1 := [.int r87]) ⟨hx, hb, hml, hown, hw⟩ (c_mm_many l D cI cL cZ r84 r87 hr87) (kS_mm_143 hw ⟨by decide, by decide⟩) mo_P0 hK hN rfl hl.1 rfl rfl d_mm_count_87 rfl ?_
              refine lv_goto (pc := 90) (tgt := 94) hx hb d_mm_count_90 rfl ?_
              exact mo_retIr hx hb hr hlocks hQ h d_mm_count_94
          · have h := mo_t hc h
            refine lv_aload_n (pc := 68) hx hb d_mm_count_68 rfl (lv_at hl 0 rfl) ?_
            refine gf_mm_56 (pc := 69) hx hb hw hN hown hK hP 0 rfl rfl d_mm_count_69 ?_
            obtain ⟨r72, hr72, h⟩ := mo_bd_e h
            refine mo_rS (pc := 72) (As := [.long v_dag]) (rest := []) (st1 := [.int r72]) ⟨hx, hb, hml, hown, hw⟩ (c_mm_many l D cI cL cZ v_dag r72 hr72) (kS_mm_143 hw ⟨by decide, by decide⟩) mo_P0 hK hN rfl hl.1 rfl rfl d_mm_count_72 rfl ?_
            refine lv_goto (pc := 75) (tgt := 94) hx hb d_mm_count_75 rfl ?_
            exact mo_retIr hx hb hr hlocks hQ h d_mm_count_94
        · have h := mo_t hc h
          refine lv_aload_n (pc := 56) hx hb d_mm_count_56 rfl (lv_at hl 0 rfl) ?_
          refine gf_mm_34 (pc := 57) hx hb hw hN hown hK hP 0 rfl rfl d_mm_count_57 ?_
          refine lv_goto (pc := 60) (tgt := 94) hx hb d_mm_count_60 rfl ?_
          exact mo_retIr hx hb hr hlocks hQ h d_mm_count_94
      · have h := mo_t hc h
        refine lv_aload_n (pc := 44) hx hb d_mm_count_44 rfl (lv_at hl 0 rfl) ?_
        refine gf_mm_110 (pc := 45) hx hb hw hN hown hK hP 0 rfl rfl d_mm_count_45 ?_
        refine lv_goto (pc := 48) (tgt := 94) hx hb d_mm_count_48 rfl ?_
        exact mo_retIr hx hb hr hlocks hQ h d_mm_count_94
  exact mo_lp_i (step := (m_mm_count_L4 v_made f_accepted)) (o := w4) (fun (x : Int32 × Int32) => match x with | (z4_2, z4_3) => ∀ (ls : Array Slot) (hl : lv_has ls 4 [(0, .ref a_this), (1, .int x1), (2, .int z4_2), (3, .int z4_3)]), W p l e rm_mm_count s m args below meth c s.heap [] 0 0 Q (F0 m 4 ls [])) (by
      rintro bk4 hb4 ⟨z4_2, z4_3⟩ h ls hl
      unfold m_mm_count_L4 at h
      try dsimp only at h
      refine lv_iload_n (pc := 4) hx hb d_mm_count_4 rfl (lv_at hl 3 rfl) ?_
      refine lv_aload_n (pc := 5) hx hb d_mm_count_5 rfl (lv_at hl 0 rfl) ?_
      refine gf_mm_110 (pc := 6) hx hb hw hN hown hK hP 0 rfl rfl d_mm_count_6 ?_
      refine lv_icmp_ge (pc := 9) (tgt := 35) hx hb d_mm_count_9 rfl (fun hc => ?_) (fun hc => ?_)
      · have h := mo_t hc h
        exact E4 z4_2 _ (lv_sub hl [0, 1, 2] rfl) (by rw [Option.some.inj h]; exact hr4)
      · have h := mo_f hc h
        refine lv_aload_n (pc := 12) hx hb d_mm_count_12 rfl (lv_at hl 0 rfl) ?_
        refine gf_mm_85 (pc := 13) hx hb hw hN hown hK hP 0 rfl rfl d_mm_count_13 ?_
        refine lv_iload_n (pc := 16) hx hb d_mm_count_16 rfl (lv_at hl 3 rfl) ?_
        obtain ⟨v17, hi17, e17, h⟩ := mo_rI_e h
        refine mo_zald (pc := 17) hx hb hK hP 1 2 rfl rfl hi17 e17 d_mm_count_17 ?_
        obtain ⟨j28, ej28, h⟩ := mo_jn_e h
        have B28 : ∀ (s28_0 : Int32) (ls : Array Slot) (hl : lv_has ls 4 [(0, .ref a_this), (1, .int x1), (3, .int z4_3)]) (h : j28 s28_0 = some w4), W p l e rm_mm_count s m args below meth c s.heap [] 0 0 Q (F0 m 28 ls [.int s28_0]) := by
          intro s28_0 ls hl h
          have h := mo_a1 ej28 h
          refine lv_istore_n (pc := 28) (lv' := [(2, .int s28_0), (0, .ref a_this), (1, .int x1), (3, .int z4_3)]) hx hb d_mm_count_28 rfl hl (by decide) rfl (fun ls hl => ?_)
          refine lv_iinc (pc := 29) (k := 3) (v := z4_3 + 1) (lv' := [(3, .int (z4_3 + 1)), (2, .int s28_0), (0, .ref a_this), (1, .int x1)]) hx hb d_mm_count_29 hl rfl (mo_inc1 _) (by decide) rfl (fun ls hl => ?_)
          refine lv_goto (pc := 32) (tgt := 4) hx hb d_mm_count_32 rfl ?_
          exact hb4 (s28_0, z4_3 + 1) h _ (lv_sub hl [2, 3, 1, 0] rfl)
        refine lv_if_eq (pc := 18) (tgt := 27) hx hb d_mm_count_18 rfl (fun hc => ?_) (fun hc => ?_)
        · have h := mo_t hc h
          refine lv_iload_n (pc := 27) hx hb d_mm_count_27 rfl (lv_at hl 2 rfl) ?_
          exact B28 z4_2 _ (lv_sub hl [0, 1, 3] rfl) h
        · have h := mo_f hc h
          refine lv_iload_n (pc := 21) hx hb d_mm_count_21 rfl (lv_at hl 2 rfl) ?_
          refine lv_iconst (pc := 22) (v := 1) hx hb d_mm_count_22 (by decide) ?_
          refine lv_iadd (pc := 23) hx hb d_mm_count_23 ?_
          refine lv_goto (pc := 24) (tgt := 28) hx hb d_mm_count_24 rfl ?_
          exact B28 (z4_2 + 1) _ (lv_sub hl [0, 1, 3] rfl) h
    ) _ _ hy4 _ (lv_sub hl [2, 3, 1, 0] rfl)
