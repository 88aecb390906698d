set_option maxRecDepth 100000 in
set_option maxHeartbeats 4000000 in
theorem c_mm_total (l : Launch) (D : va_G) (cI cL cZ : ClassId) (a_this : Nat) (a_free : Nat) (a_amount : Nat) (a_coin : Nat) (a_worth : Nat) (a_inputs : Nat) (a_outputs : Nat) (a_source : Nat) (a_index : Nat) (a_secret : Nat) (a_lock : Nat) (a_id : Nat) (a_parents : Nat) (a_parent : Nat) (a_holds : Nat) (a_held : Nat) (a_blockLock : Nat) (a_hash : Nat) (a_past : Nat) (a_blues : Nat) (a_score : Nat) (a_selected : Nat) (a_orphan : Nat) (a_pool : Nat) (a_order : Nat) (a_merged : Nat) (a_accepted : Nat) (v_limit : Int32) (v_made : Int32) (v_blocks : Int32) (v_dag : Int64) (v_orphans : Int32) (v_pooled : Int32) (v_places : Int32) (f_free : Nat → Int32) (f_amount : Nat → Int32) (f_coin : Nat → Int32) (f_worth : Nat → Int32) (o : Int32) (h : m_mm_total v_made v_blocks f_free f_amount f_coin f_worth = some o) : Met l y_mm_total (Cond.code y_mm_total b_mm_total 4 (some .int) :: WG) rm_mm_total (va_Pc [.ref a_this] (mo_Pr D [(cI, .int), (cL, .long), (cZ, .boolean)] [(a_this, .inr (7, [.int v_limit, .int v_made, .ref a_inputs, .ref a_outputs, .ref a_source, .ref a_index, .ref a_secret, .ref a_lock, .ref a_amount, .ref a_id, .int v_blocks, .ref a_parents, .ref a_parent, .ref a_holds, .ref a_held, .ref a_blockLock, .ref a_hash, .long v_dag, .ref a_past, .ref a_blues, .ref a_score, .ref a_selected, .int v_orphans, .ref a_orphan, .int v_pooled, .ref a_pool, .int v_places, .ref a_order, .ref a_merged, .ref a_accepted, .ref a_free, .ref a_coin, .ref a_worth])), (a_free, .inl (cZ, 80, .inl f_free)), (a_amount, .inl (cI, 82, .inl f_amount)), (a_coin, .inl (cZ, 60, .inl f_coin)), (a_worth, .inl (cI, 60, .inl f_worth))])) (mo_Qr (some (.int o))) 0 0 (fun _ => False) := by
  refine mo_start (by decide) (Nat.le_of_ble_eq_true rfl) ?_
  intro p e s m args below meth c hx hb hr hlocks hml hown hw hv ls hl Q hQ
  obtain ⟨hP, hK, hN⟩ := hv
  have hl : lv_has ls 4 [(0, .ref a_this)] := hl
  unfold m_mm_total at h
  refine lv_iconst (pc := 0) (v := 0) hx hb d_mm_total_0 (by decide) ?_
  refine lv_istore_n (pc := 1) (lv' := [(1, .int 0), (0, .ref a_this)]) hx hb d_mm_total_1 rfl hl (by decide) rfl (fun ls hl => ?_)
  refine lv_iconst (pc := 2) (v := 0) hx hb d_mm_total_2 (by decide) ?_
  refine lv_istore_n (pc := 3) (lv' := [(2, .int 0), (1, .int 0), (0, .ref a_this)]) hx hb d_mm_total_3 rfl hl (by decide) rfl (fun ls hl => ?_)
  obtain ⟨w4, K4, eK4, hy4, hr4⟩ := mo_bd_k h
  have E4 : ∀ (y4_1 : Int32) (ls : Array Slot) (hl : lv_has ls 4 [(0, .ref a_this), (1, .int y4_1)]) (h : K4 y4_1 = some o), W p l e rm_mm_total s m args below meth c s.heap [] 0 0 Q (F0 m 61 ls []) := by
    intro y4_1 ls hl h
    have h := mo_a1 eK4 h
    try dsimp only at h
    refine lv_iconst (pc := 61) (v := 0) hx hb d_mm_total_61 (by decide) ?_
    refine lv_istore_n (pc := 62) (lv' := [(2, .int 0), (0, .ref a_this), (1, .int y4_1)]) hx hb d_mm_total_62 rfl hl (by decide) rfl (fun ls hl => ?_)
    obtain ⟨w63, K63, eK63, hy63, hr63⟩ := mo_bd_k h
    have E63 : ∀ (y63_1 : Int32) (ls : Array Slot) (hl : lv_has ls 4 [(1, .int y63_1)]) (h : K63 y63_1 = some o), W p l e rm_mm_total s m args below meth c s.heap [] 0 0 Q (F0 m 99 ls []) := by
      intro y63_1 ls hl h
      have h := mo_a1 eK63 h
      try dsimp only at h
      refine lv_iload_n (pc := 99) hx hb d_mm_total_99 rfl (lv_at hl 0 rfl) ?_
      exact mo_retIr hx hb hr hlocks hQ h d_mm_total_100
    exact mo_lp_i (step := (m_mm_total_L63 v_blocks f_coin f_worth)) (o := w63) (fun (x : Int32 × Int32) => match x with | (z63_1, z63_2) => ∀ (ls : Array Slot) (hl : lv_has ls 4 [(0, .ref a_this), (1, .int z63_1), (2, .int z63_2)]), W p l e rm_mm_total s m args below meth c s.heap [] 0 0 Q (F0 m 63 ls [])) (by
        rintro bk63 hb63 ⟨z63_1, z63_2⟩ h ls hl
        unfold m_mm_total_L63 at h
        try dsimp only at h
        refine lv_iload_n (pc := 63) hx hb d_mm_total_63 rfl (lv_at hl 2 rfl) ?_
        refine lv_aload_n (pc := 64) hx hb d_mm_total_64 rfl (lv_at hl 0 rfl) ?_
        refine gf_mm_34 (pc := 65) hx hb hw hN hown hK hP 0 rfl rfl d_mm_total_65 ?_
        refine lv_icmp_ge (pc := 68) (tgt := 99) hx hb d_mm_total_68 rfl (fun hc => ?_) (fun hc => ?_)
        · have h := mo_t hc h
          exact E63 z63_1 _ (lv_sub hl [1] rfl) (by rw [Option.some.inj h]; exact hr63)
        · have h := mo_f hc h
          refine lv_aload_n (pc := 71) hx hb d_mm_total_71 rfl (lv_at hl 0 rfl) ?_
          refine gf_mm_92 (pc := 72) hx hb hw hN hown hK hP 0 rfl rfl d_mm_total_72 ?_
          refine lv_iload_n (pc := 75) hx hb d_mm_total_75 rfl (lv_at hl 2 rfl) ?_
          obtain ⟨v76, hi76, e76, h⟩ := mo_rI_e h
          refine mo_zald (pc := 76) hx hb hK hP 3 2 rfl rfl hi76 e76 d_mm_total_76 ?_
          obtain ⟨j92, ej92, h⟩ := mo_jn_e h
          have B92 : ∀ (s92_0 : Int32) (ls : Array Slot) (hl : lv_has ls 4 [(0, .ref a_this), (2, .int z63_2)]) (h : j92 s92_0 = some w63), W p l e rm_mm_total s m args below meth c s.heap [] 0 0 Q (F0 m 92 ls [.int s92_0]) := by
            intro s92_0 ls hl h
            have h := mo_a1 ej92 h
            refine lv_istore_n (pc := 92) (lv' := [(1, .int s92_0), (0, .ref a_this), (2, .int z63_2)]) hx hb d_mm_total_92 rfl hl (by decide) rfl (fun ls hl => ?_)
            refine lv_iinc (pc := 93) (k := 2) (v := z63_2 + 1) (lv' := [(2, .int (z63_2 + 1)), (1, .int s92_0), (0, .ref a_this)]) hx hb d_mm_total_93 hl rfl (mo_inc1 _) (by decide) rfl (fun ls hl => ?_)
            refine lv_goto (pc := 96) (tgt := 63) hx hb d_mm_total_96 rfl ?_
            exact hb63 (s92_0, z63_2 + 1) h _ (lv_sub hl [2, 1, 0] rfl)
          refine lv_if_eq (pc := 77) (tgt := 91) hx hb d_mm_total_77 rfl (fun hc => ?_) (fun hc => ?_)
          · have h := mo_t hc h
            refine lv_iload_n (pc := 91) hx hb d_mm_total_91 rfl (lv_at hl 1 rfl) ?_
            exact B92 z63_1 _ (lv_sub hl [0, 2] rfl) h
          · have h := mo_f hc h
            refine lv_iload_n (pc := 80) hx hb d_mm_total_80 rfl (lv_at hl 1 rfl) ?_
            refine lv_aload_n (pc := 81) hx hb d_mm_total_81 rfl (lv_at hl 0 rfl) ?_
            refine gf_mm_95 (pc := 82) hx hb hw hN hown hK hP 0 rfl rfl d_mm_total_82 ?_
            refine lv_iload_n (pc := 85) hx hb d_mm_total_85 rfl (lv_at hl 2 rfl) ?_
            obtain ⟨v86, hi86, e86, h⟩ := mo_rI_e h
            refine mo_iald (pc := 86) hx hb hK hP 4 0 rfl rfl hi86 e86 d_mm_total_86 ?_
            refine lv_iadd (pc := 87) hx hb d_mm_total_87 ?_
            refine lv_goto (pc := 88) (tgt := 92) hx hb d_mm_total_88 rfl ?_
            exact B92 (z63_1 + v86) _ (lv_sub hl [0, 2] rfl) h
      ) _ _ hy63 _ (lv_sub hl [1, 2, 0] rfl)
  exact mo_lp_i (step := (m_mm_total_L4 v_made f_free f_amount)) (o := w4) (fun (x : Int32 × Int32) => match x with | (z4_1, z4_2) => ∀ (ls : Array Slot) (hl : lv_has ls 4 [(0, .ref a_this), (1, .int z4_1), (2, .int z4_2)]), W p l e rm_mm_total s m args below meth c s.heap [] 0 0 Q (F0 m 4 ls [])) (by
      rintro bk4 hb4 ⟨z4_1, z4_2⟩ h ls hl
      unfold m_mm_total_L4 at h
      try dsimp only at h
      refine lv_iload_n (pc := 4) hx hb d_mm_total_4 rfl (lv_at hl 2 rfl) ?_
      refine lv_aload_n (pc := 5) hx hb d_mm_total_5 rfl (lv_at hl 0 rfl) ?_
      refine gf_mm_110 (pc := 6) hx hb hw hN hown hK hP 0 rfl rfl d_mm_total_6 ?_
      refine lv_icmp_ge (pc := 9) (tgt := 61) hx hb d_mm_total_9 rfl (fun hc => ?_) (fun hc => ?_)
      · have h := mo_t hc h
        exact E4 z4_1 _ (lv_sub hl [0, 1] rfl) (by rw [Option.some.inj h]; exact hr4)
      · have h := mo_f hc h
        refine lv_iconst (pc := 12) (v := 0) hx hb d_mm_total_12 (by decide) ?_
        refine lv_istore_n (pc := 13) (lv' := [(3, .int 0), (0, .ref a_this), (1, .int z4_1), (2, .int z4_2)]) hx hb d_mm_total_13 rfl hl (by decide) rfl (fun ls hl => ?_)
        obtain ⟨w14, K14, eK14, hy14, hr14⟩ := mo_bd_k h
        have E14 : ∀ (y14_1 : Int32) (ls : Array Slot) (hl : lv_has ls 4 [(0, .ref a_this), (1, .int y14_1), (2, .int z4_2)]) (h : K14 y14_1 = some w4), W p l e rm_mm_total s m args below meth c s.heap [] 0 0 Q (F0 m 55 ls []) := by
          intro y14_1 ls hl h
          have h := mo_a1 eK14 h
          try dsimp only at h
          refine lv_iinc (pc := 55) (k := 2) (v := z4_2 + 1) (lv' := [(2, .int (z4_2 + 1)), (0, .ref a_this), (1, .int y14_1)]) hx hb d_mm_total_55 hl rfl (mo_inc1 _) (by decide) rfl (fun ls hl => ?_)
          refine lv_goto (pc := 58) (tgt := 4) hx hb d_mm_total_58 rfl ?_
          exact hb4 (y14_1, z4_2 + 1) h _ (lv_sub hl [1, 2, 0] rfl)
        exact mo_lp_i (step := (m_mm_total_L14 f_free f_amount z4_2)) (o := w14) (fun (x : Int32 × Int32) => match x with | (z14_1, z14_3) => ∀ (ls : Array Slot) (hl : lv_has ls 4 [(0, .ref a_this), (1, .int z14_1), (2, .int z4_2), (3, .int z14_3)]), W p l e rm_mm_total s m args below meth c s.heap [] 0 0 Q (F0 m 14 ls [])) (by
            rintro bk14 hb14 ⟨z14_1, z14_3⟩ h ls hl
            unfold m_mm_total_L14 at h
            try dsimp only at h
            refine lv_iload_n (pc := 14) hx hb d_mm_total_14 rfl (lv_at hl 3 rfl) ?_
            refine lv_iconst (pc := 15) (v := 2) hx hb d_mm_total_15 (by decide) ?_
            refine lv_icmp_ge (pc := 16) (tgt := 55) hx hb d_mm_total_16 rfl (fun hc => ?_) (fun hc => ?_)
            · have h := mo_t hc h
              exact E14 z14_1 _ (lv_sub hl [0, 1, 2] rfl) (by rw [Option.some.inj h]; exact hr14)
            · have h := mo_f hc h
              refine lv_aload_n (pc := 19) hx hb d_mm_total_19 rfl (lv_at hl 0 rfl) ?_
              refine gf_mm_89 (pc := 20) hx hb hw hN hown hK hP 0 rfl rfl d_mm_total_20 ?_
              refine lv_iconst (pc := 23) (v := 2) hx hb d_mm_total_23 (by decide) ?_
              refine lv_iload_n (pc := 24) hx hb d_mm_total_24 rfl (lv_at hl 2 rfl) ?_
              refine lv_imul (pc := 25) hx hb d_mm_total_25 ?_
              refine lv_iload_n (pc := 26) hx hb d_mm_total_26 rfl (lv_at hl 3 rfl) ?_
              refine lv_iadd (pc := 27) hx hb d_mm_total_27 ?_
              obtain ⟨v28, hi28, e28, h⟩ := mo_rI_e h
              refine mo_zald (pc := 28) hx hb hK hP 1 2 rfl rfl hi28 e28 d_mm_total_28 ?_
              obtain ⟨j48, ej48, h⟩ := mo_jn_e h
              have B48 : ∀ (s48_0 : Int32) (ls : Array Slot) (hl : lv_has ls 4 [(0, .ref a_this), (2, .int z4_2), (3, .int z14_3)]) (h : j48 s48_0 = some w14), W p l e rm_mm_total s m args below meth c s.heap [] 0 0 Q (F0 m 48 ls [.int s48_0]) := by
                intro s48_0 ls hl h
                have h := mo_a1 ej48 h
                refine lv_istore_n (pc := 48) (lv' := [(1, .int s48_0), (0, .ref a_this), (2, .int z4_2), (3, .int z14_3)]) hx hb d_mm_total_48 rfl hl (by decide) rfl (fun ls hl => ?_)
                refine lv_iinc (pc := 49) (k := 3) (v := z14_3 + 1) (lv' := [(3, .int (z14_3 + 1)), (1, .int s48_0), (0, .ref a_this), (2, .int z4_2)]) hx hb d_mm_total_49 hl rfl (mo_inc1 _) (by decide) rfl (fun ls hl => ?_)
                refine lv_goto (pc := 52) (tgt := 14) hx hb d_mm_total_52 rfl ?_
                exact hb14 (s48_0, z14_3 + 1) h _ (lv_sub hl [2, 1, 3, 0] rfl)
              refine lv_if_eq (pc := 29) (tgt := 47) hx hb d_mm_total_29 rfl (fun hc => ?_) (fun hc => ?_)
              · have h := mo_t hc h
                refine lv_iload_n (pc := 47) hx hb d_mm_total_47 rfl (lv_at hl 1 rfl) ?_
                exact B48 z14_1 _ (lv_sub hl [0, 2, 3] rfl) h
              · have h := mo_f hc h
                refine lv_iload_n (pc := 32) hx hb d_mm_total_32 rfl (lv_at hl 1 rfl) ?_
                refine lv_aload_n (pc := 33) hx hb d_mm_total_33 rfl (lv_at hl 0 rfl) ?_
                refine gf_mm_28 (pc := 34) hx hb hw hN hown hK hP 0 rfl rfl d_mm_total_34 ?_
                refine lv_iconst (pc := 37) (v := 2) hx hb d_mm_total_37 (by decide) ?_
                refine lv_iload_n (pc := 38) hx hb d_mm_total_38 rfl (lv_at hl 2 rfl) ?_
                refine lv_imul (pc := 39) hx hb d_mm_total_39 ?_
                refine lv_iload_n (pc := 40) hx hb d_mm_total_40 rfl (lv_at hl 3 rfl) ?_
                refine lv_iadd (pc := 41) hx hb d_mm_total_41 ?_
                obtain ⟨v42, hi42, e42, h⟩ := mo_rI_e h
                refine mo_iald (pc := 42) hx hb hK hP 2 0 rfl rfl hi42 e42 d_mm_total_42 ?_
                refine lv_iadd (pc := 43) hx hb d_mm_total_43 ?_
                refine lv_goto (pc := 44) (tgt := 48) hx hb d_mm_total_44 rfl ?_
                exact B48 (z14_1 + v42) _ (lv_sub hl [0, 2, 3] rfl) h
          ) _ _ hy14 _ (lv_sub hl [1, 2, 3, 0] rfl)
    ) _ _ hy4 _ (lv_sub hl [2, 1, 0] rfl)
