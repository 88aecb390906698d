/-- the relation through a row of transactions -/
theorem runT_inv {nT nB W : Nat} {ins : Nat → List (Nat × Nat × Int32)} {outs : Nat → List (Int32 × Nat)} {ol bl : Nat → Int32} {l : List Nat} {u u' : Nat → Option Nat} {a a' : Int64} {F : Nat} (hV : TV nT nB ins outs) (hL : LV u a nT nB W outs) (hl : ∀ t ∈ l, t < nT) (h : runT ins outs ol bl l (u, a, 0) = (u', a', F)) : LV u' a' nT nB (W - F) outs ∧ F ≤ W ∧ ∀ c, c < 60 → u (80 + c) = none → u' (80 + c) = none := by
  have key : ∀ (l : List Nat) (u1 : Nat → Option Nat) (a1 : Int64) (F1 : Nat), (∀ t ∈ l, t < nT) → LV u1 a1 nT nB (W - F1) outs → F1 ≤ W → (∀ c, c < 60 → u (80 + c) = none → u1 (80 + c) = none) → ∀ u' a' F, runT ins outs ol bl l (u1, a1, F1) = (u', a', F) → LV u' a' nT nB (W - F) outs ∧ F ≤ W ∧ ∀ c, c < 60 → u (80 + c) = none → u' (80 + c) = none := by
    intro l
    induction l with
    | nil =>
      intro u1 a1 F1 _ h1 h2 h3 u' a' F h
      cases h
      exact ⟨h1, h2, h3⟩
    | cons t l ih =>
      intro u1 a1 F1 hl h1 h2 h3 u' a' F h
      have h : runT ins outs ol bl l (run1 ins outs ol bl t (u1, a1, F1)) = (u', a', F) := h
      by_cases q : okT u1 a1 ol bl (ins t) (outs t) t
      · obtain ⟨hL', hfee, hn⟩ := LV_tx hV h1 (hl t List.mem_cons_self) q
        rw [run1_t q] at h
        refine ih _ _ _ (fun s hs => hl s (List.mem_cons_of_mem _ hs)) ?_ (by omega) (fun c hc hq => hn c hc (h3 c hc hq)) u' a' F h
        rw [show W - (F1 + (sumI u1 (ins t) - sumO (outs t))) = W - F1 - (sumI u1 (ins t) - sumO (outs t)) by omega]
        exact hL'
      · rw [run1_f q] at h
        exact ih _ _ _ (fun s hs => hl s (List.mem_cons_of_mem _ hs)) h1 h2 h3 u' a' F h
  exact key l u a 0 hl hL (Nat.zero_le _) (fun _ _ q => q) u' a' F h
theorem e_lookL16 (f : Nat → Int32) : ∃ g : Nat → Int32, mo_lp m_mm_look_L16 1000 (0, f) = some g ∧ ∀ i, i < 40 → g i = 0 := by
  obtain ⟨o, h1, h2⟩ := lp_ix (step := m_mm_look_L16) 40 (fun j z => ∃ g : Nat → Int32, z = (nI j, g) ∧ ∀ i, i < j → g i = 0) (fun o => ∀ i, i < 40 → o i = 0) (by
    intro back j z hj hz ih
    obtain ⟨g, rfl, hg⟩ := hz
    unfold m_mm_look_L16
    dsimp only
    by_cases e : j = 40
    · subst e
      rw [mo_T (by decide)]
      exact ⟨_, rfl, hg⟩
    · rw [mo_F (show ¬ (40 : Int32) ≤ nI j from nI_ge (b := 40) (by omega) (by decide)), mo_wZn (by omega) (by decide), nar0, ← nI_succ]
      refine ih _ (by omega) ⟨_, rfl, fun i hi => ?_⟩
      by_cases ei : i = j
      · rw [ei, pk_us]
      · rw [pk_un ei]
        exact hg i (by omega)) 1000 0 (0, f) (by decide) ⟨f, rfl, fun i hi => by omega⟩ (by decide)
  exact ⟨o, h1, h2⟩
theorem e_lookL37 (f : Nat → Int32) : ∃ g : Nat → Int32, mo_lp m_mm_look_L37 1000 (0, f) = some g ∧ ∀ i, i < 80 → g i = 0 := by
  obtain ⟨o, h1, h2⟩ := lp_ix (step := m_mm_look_L37) 80 (fun j z => ∃ g : Nat → Int32, z = (nI j, g) ∧ ∀ i, i < j → g i = 0) (fun o => ∀ i, i < 80 → o i = 0) (by
    intro back j z hj hz ih
    obtain ⟨g, rfl, hg⟩ := hz
    unfold m_mm_look_L37
    dsimp only
    by_cases e : j = 80
    · subst e
      rw [mo_T (by decide)]
      exact ⟨_, rfl, hg⟩
    · rw [mo_F (show ¬ (80 : Int32) ≤ nI j from nI_ge (b := 80) (by omega) (by decide)), mo_wZn (by omega) (by decide), nar0, ← nI_succ]
      refine ih _ (by omega) ⟨_, rfl, fun i hi => ?_⟩
      by_cases ei : i = j
      · rw [ei, pk_us]
      · rw [pk_un ei]
        exact hg i (by omega)) 1000 0 (0, f) (by decide) ⟨f, rfl, fun i hi => by omega⟩ (by decide)
  exact ⟨o, h1, h2⟩
theorem e_lookL58 (f : Nat → Int32) : ∃ g : Nat → Int32, mo_lp m_mm_look_L58 1000 (0, f) = some g ∧ ∀ i, i < 60 → g i = 0 := by
  obtain ⟨o, h1, h2⟩ := lp_ix (step := m_mm_look_L58) 60 (fun j z => ∃ g : Nat → Int32, z = (nI j, g) ∧ ∀ i, i < j → g i = 0) (fun o => ∀ i, i < 60 → o i = 0) (by
    intro back j z hj hz ih
    obtain ⟨g, rfl, hg⟩ := hz
    unfold m_mm_look_L58
    dsimp only
    by_cases e : j = 60
    · subst e
      rw [mo_T (by decide)]
      exact ⟨_, rfl, hg⟩
    · rw [mo_F (show ¬ (60 : Int32) ≤ nI j from nI_ge (b := 60) (by omega) (by decide)), mo_wZn (by omega) (by decide), nar0, ← nI_succ]
      refine ih _ (by omega) ⟨_, rfl, fun i hi => ?_⟩
      by_cases ei : i = j
      · rw [ei, pk_us]
      · rw [pk_un ei]
        exact hg i (by omega)) 1000 0 (0, f) (by decide) ⟨f, rfl, fun i hi => by omega⟩ (by decide)
  exact ⟨o, h1, h2⟩
theorem e_fill (f : Nat → Int32) : ∃ g : Nat → Int32, m_ja_fill f 140 (-1) = some g ∧ ∀ i, i < 140 → g i = -1 := by
  obtain ⟨o, h1, h2⟩ := lp_ix (step := m_ja_fill_L5 140 (-1)) 140 (fun j z => ∃ g : Nat → Int32, z = (nI j, g) ∧ ∀ i, i < j → g i = -1) (fun o => ∀ i, i < 140 → o i = -1) (by
    intro back j z hj hz ih
    obtain ⟨g, rfl, hg⟩ := hz
    unfold m_ja_fill_L5
    dsimp only
    by_cases e : j = 140
    · subst e
      rw [mo_T (by decide)]
      exact ⟨_, rfl, hg⟩
    · rw [mo_F (show ¬ Int32.ofNat 140 ≤ nI j from nI_ge (b := 140) (by omega) (by decide)), mo_wIn (by omega) (by decide), ← nI_succ]
      refine ih _ (by omega) ⟨_, rfl, fun i hi => ?_⟩
      by_cases ei : i = j
      · rw [ei, pk_us]
      · rw [pk_un ei]
        exact hg i (by omega)) 1000 0 (0, f) (by decide) ⟨f, rfl, fun i hi => by omega⟩ (by decide)
  refine ⟨o, ?_, h2⟩
  unfold m_ja_fill
  rw [h1, mo_bs]
def u00 : Nat → Option Nat := fun _ => none
theorem sum_u00 : ∀ n, sumU u00 n = 0 := by
  intro n
  induction n with
  | zero => rfl
  | succ n ih => show sumU u00 n + 0 = 0; rw [ih]
theorem LV_00 {nT nB : Nat} {outs : Nat → List (Int32 × Nat)} : LV u00 0 nT nB 0 outs := ⟨fun t k v _ _ h => (by cases h), fun b v _ h => (by cases h), (by rw [sum_u00]; exact Nat.le_refl _), fun t h => (by rw [tb_0] at h; cases h)⟩
/-! all blocks of the order done, on each side -/
theorem e_replay {nT nB : Nat} {I : Nat → List Nat} {L : List Nat} {M : Int64} {sc : Nat → Nat} {acc0 : Int64} {ins : Nat → List (Nat × Nat × Int32)} {outs : Nat → List (Int32 × Nat)} {fic fi ic islot ilock oc olock oamt am bl sq cs : Nat → Int32} {cb : Nat → Int64} (hI : BP 3 nB I fic fi) (hIt : ∀ b, b < nB → ∀ t ∈ I b, t < nT) (hX : TX nT ins outs ic islot ilock oc olock oamt) (hV : TV nT nB ins outs) (hsq : hL sq L) (hlen : L.length = cnt M 60) (hM : ∀ y, 60 ≤ y → tb M y = false) (hLb : ∀ b ∈ L, b < nB ∧ cs b = nI (sc b) ∧ sc b ≤ 64) (hnd : L.Nodup) : ∃ (u' : Nat → Option Nat) (a' : Int64) (am' : Nat → Int32), m_le_replay acc0 am M sq fic fi ic islot olock bl ilock oc oamt cb cs = some (a', am') ∧ runB ins outs olock bl I (cb 60) sc L (u00, 0) = (u', a') ∧ LC u' am' ∧ LV u' a' nT nB (64 * L.length) outs := by
  have hB := hV.2.1
  have hle := cnt_le M 60
  have hM64 : cnt M 64 = cnt M 60 := cnt_more (by decide) (fun y h1 _ => hM y h1)
  obtain ⟨g0, G1, G2⟩ := e_fill am
  obtain ⟨o, h1, u', a', am', h2, rfl, h3, h4⟩ := lp_ix (step := m_le_replay_L15 M sq fic fi ic islot olock bl ilock oc oamt cb cs) L.length (fun j z => ∃ (u1 : Nat → Option Nat) (a1 : Int64) (g : Nat → Int32), z = (nI j, a1, g) ∧ LC u1 g ∧ LV u1 a1 nT nB (64 * j) outs ∧ (∀ b ∈ L.drop j, u1 (80 + b) = none) ∧ runB ins outs olock bl I (cb 60) sc (L.drop j) (u1, a1) = runB ins outs olock bl I (cb 60) sc L (u00, 0)) (fun o => ∃ (u' : Nat → Option Nat) (a' : Int64) (am' : Nat → Int32), runB ins outs olock bl I (cb 60) sc L (u00, 0) = (u', a') ∧ o = (a', am') ∧ LC u' am' ∧ LV u' a' nT nB (64 * L.length) outs) (by
    intro back j z hj hz ih
    obtain ⟨u1, a1, g, rfl, g1, g2, g3, g4⟩ := hz
    unfold m_le_replay_L15 m_dg_size
    dsimp only
    rw [e_bitCount, mo_bs, mo_bs, hM64, ← hlen]
    by_cases e : j = L.length
    · rw [mo_T (nI_le (by omega) (by omega))]
      rw [e, List.drop_length] at g4
      rw [e] at g2
      exact ⟨_, rfl, u1, a1, g, g4.symm, rfl, g1, g2⟩
    · have hj2 : j < L.length := by omega
      have hbm : L[j] ∈ L := List.getElem_mem hj2
      obtain ⟨b1, b2, b3⟩ := hLb _ hbm
      have hd : L.drop j = L[j] :: L.drop (j + 1) := List.drop_eq_getElem_cons hj2
      have hnone := g3 L[j] (by rw [hd]; exact List.mem_cons_self)
      obtain ⟨o, E, u2, a2, F, am2, R1, rfl, C1, C2, C3, C4⟩ := e_repL36 (bl := bl) hI (hIt _ b1) hX hV g1 g2 (by omega) b1
      rw [mo_F (nI_ge hj2 (by omega)), mo_rIn (by omega) (by decide), hsq j _ (List.getElem?_eq_getElem hj2), E, mo_bs]
      dsimp only
      unfold m_dg_isBlue
      rw [show (60 : Int32) = nI 60 from rfl, mo_rLn (by decide) (by decide), e_holds' _ (by omega), mo_bs, z_bI, mo_bs, mo_js]
      rw [runB_drop hj2, runB1_v R1] at g4
      have hrest : ∀ b ∈ L.drop (j + 1), b ≠ L[j] ∧ u2 (80 + b) = none := fun b hb => by
        have h5 : (L.drop j).Nodup := hnd.sublist (List.drop_sublist _ _)
        rw [hd] at h5
        have hbL : b ∈ L := List.mem_of_mem_drop hb
        have := (hLb b hbL).1
        exact ⟨fun w => (List.nodup_cons.mp h5).1 (w ▸ hb), C4 b (by omega) (g3 b (by rw [hd]; exact List.mem_cons_of_mem _ hb))⟩
      cases t : tb (cb 60) L[j] with
      | false =>
        rw [mo_T bI_f, ← nI_succ]
        rw [if_neg (by rw [t]; decide)] at g4
        exact ih _ hj2 ⟨u2, a2, am2, rfl, C1, LV_mono C2 (by omega), fun b hb => (hrest b hb).2, g4⟩
      | true =>
        have hr := rew_le (sc L[j])
        rw [mo_F (by decide), mo_rIn (by omega) (by decide), b2, rew_c _ (by omega), nI_add, show (80 : Int32) + nI L[j] = nI (80 + L[j]) from nI_add 80 L[j], mo_wIn (by omega) (by decide), ← nI_succ]
        rw [if_pos t] at g4
        refine ih _ hj2 ⟨_, a2, _, rfl, LC_set (x := some (rew (sc L[j]) + F)) C1, LV_mono (LV_block hB C2 C3 b1 (C4 _ (by omega) hnone) _ hr) (by omega), fun b hb => ?_, g4⟩
        rw [setU_n (by have := (hrest b hb).1; omega)]
        exact (hrest b hb).2) 1000 0 (0, 0, g0) (Nat.zero_le _) ⟨u00, 0, g0, rfl, fun j hj => G2 j hj, LV_00, fun b _ => rfl, rfl⟩ (by omega)
  refine ⟨u', a', am', ?_, h2, h3, h4⟩
  unfold m_le_replay
  rw [G1, mo_bs, h1, mo_bs]
theorem e_lookL79 {nT nB : Nat} {I : Nat → List Nat} {L : List Nat} {B : Int64} {sc : Nat → Nat} {ins : Nat → List (Nat × Nat × Int32)} {outs : Nat → List (Int32 × Nat)} {ic islot ilock oc olock oamt bl hol held inp src idx sec outp lock amt free coin worth macc mbl ord ms : Nat → Int32} {mb : Nat → Int64} (hI : BP 3 nB I hol held) (hIt : ∀ b, b < nB → ∀ t ∈ I b, t < nT) (hX : TX nT ins outs ic islot ilock oc olock oamt) (hY : TM nT ins outs inp src idx sec outp lock amt) (hV : TV nT nB ins outs) (hord : hL ord L) (hlen : L.length ≤ 60) (hLb : ∀ b ∈ L, b < nB ∧ ms b = nI (sc b) ∧ sc b ≤ 64) (hnd : L.Nodup) (hlk : ∀ c, c < nB → mbl c = bl c) (hmb : mb 60 = B) (z1 : ∀ i, i < 40 → macc i = 0) (z2 : ∀ i, i < 80 → free i = 0) (z3 : ∀ i, i < 60 → coin i = 0) : ∃ (u' : Nat → Option Nat) (a' : Int64) (macc' free' coin' worth' : Nat → Int32), mo_lp (m_mm_look_L79 hol held inp src idx lock mbl sec amt outp ms mb (nI L.length) ord) 1000 (0, macc, free, coin, worth) = some (macc', free', coin', worth') ∧ runB ins outs olock bl I B sc L (u00, 0) = (u', a') ∧ LM u' a' amt free' coin' worth' macc' := by
  have hB := hV.2.1
  obtain ⟨o, h1, u', a', m', f', c', w', h2, rfl, h3⟩ := lp_ix (step := m_mm_look_L79 hol held inp src idx lock mbl sec amt outp ms mb (nI L.length) ord) L.length (fun j z => ∃ (u1 : Nat → Option Nat) (a1 : Int64) (m1 f1 c1 w1 : Nat → Int32), z = (nI j, m1, f1, c1, w1) ∧ LM u1 a1 amt f1 c1 w1 m1 ∧ LV u1 a1 nT nB (64 * j) outs ∧ (∀ b ∈ L.drop j, u1 (80 + b) = none) ∧ runB ins outs olock bl I B sc (L.drop j) (u1, a1) = runB ins outs olock bl I B sc L (u00, 0)) (fun o => ∃ (u' : Nat → Option Nat) (a' : Int64) (m' f' c' w' : Nat → Int32), runB ins outs olock bl I B sc L (u00, 0) = (u', a') ∧ o = (m', f', c', w') ∧ LM u' a' amt f' c' w' m') (by
    intro back j z hj hz ih
    obtain ⟨u1, a1, m1, f1, c1, w1, rfl, g1, g2, g3, g4⟩ := hz
    unfold m_mm_look_L79
    dsimp only
    by_cases e : j = L.length
    · rw [mo_T (nI_le (by omega) (by omega))]
      rw [e, List.drop_length] at g4
      exact ⟨_, rfl, u1, a1, m1, f1, c1, w1, g4.symm, rfl, g1⟩
    · have hj2 : j < L.length := by omega
      have hbm : L[j] ∈ L := List.getElem_mem hj2
      obtain ⟨b1, b2, b3⟩ := hLb _ hbm
      have hd : L.drop j = L[j] :: L.drop (j + 1) := List.drop_eq_getElem_cons hj2
      have hnone := g3 L[j] (by rw [hd]; exact List.mem_cons_self)
      obtain ⟨o, E, u2, a2, F, m2, f2, c2, R1, rfl, C1⟩ := e_payL4 (bl := bl) hI (hIt _ b1) hX hY hV g1 g2 (by omega) hlk b1
      have hinv : LV u2 a2 nT nB (64 * j - F) outs ∧ F ≤ 64 * j ∧ ∀ c, c < 60 → u1 (80 + c) = none → u2 (80 + c) = none := runT_inv hV g2 (hIt _ b1) R1
      obtain ⟨C2, C3, C4⟩ := hinv
      have hb60 : L[j] < 60 := by omega
      have hr := rew_le (sc L[j])
      rw [mo_F (nI_ge hj2 (by omega)), mo_rIn (by omega) (by decide), hord j _ (List.getElem?_eq_getElem hj2)]
      rw [runB_drop hj2, runB1_v R1] at g4
      have hrest : ∀ b ∈ L.drop (j + 1), b ≠ L[j] ∧ u2 (80 + b) = none := fun b hb => by
        have h5 : (L.drop j).Nodup := hnd.sublist (List.drop_sublist _ _)
        rw [hd] at h5
        have hbL : b ∈ L := List.mem_of_mem_drop hb
        have := (hLb b hbL).1
        exact ⟨fun w => (List.nodup_cons.mp h5).1 (w ▸ hb), C4 b (by omega) (g3 b (by rw [hd]; exact List.mem_cons_of_mem _ hb))⟩
      have pay : m_mm_pay hol held m1 inp src idx f1 c1 lock mbl sec amt w1 outp mb ms (nI L[j]) = some (m2, f2, upd c2 L[j] (bI (tb B L[j])), upd w1 L[j] (nI (rew (sc L[j]) + F))) := by
        unfold m_mm_pay
        rw [E, mo_bs]
        dsimp only
        rw [show (60 : Int32) = nI 60 from rfl, mo_rLn (by decide) (by decide), hmb, e_in' _ (by omega), mo_bs, mo_wZn hb60 (by decide), mo_rIn (by omega) (by decide), b2, mo_js]
        have nb : vp_nar .boolean (bI (tb B L[j])) = bI (tb B L[j]) := by cases tb B L[j] <;> decide
        rw [nb]
        by_cases q : 56 ≤ sc L[j]
        · rw [mo_T (show (56 : Int32) ≤ nI (sc L[j]) from nI_le (a := 56) q (by omega))]
          dsimp only
          rw [show (0 : Int32) + nI F = nI (0 + F) from nI_add 0 F, mo_wIn hb60 (by decide), rew_0 _ (by omega) q]
        · rw [mo_F (show ¬ (56 : Int32) ≤ nI (sc L[j]) from nI_ge (b := 56) (by omega) (by decide)), mo_rIn (by omega) (by decide), b2, rew_c _ (by omega)]
          dsimp only
          rw [nI_add, mo_wIn hb60 (by decide)]
      rw [pay, mo_bs]
      dsimp only
      rw [← nI_succ]
      cases t : tb B L[j] with
      | false =>
        rw [if_neg (by rw [t]; decide)] at g4
        refine ih _ hj2 ⟨u2, a2, _, _, _, _, rfl, ⟨C1.1, fun c hc => ?_, C1.2.2⟩, LV_mono C2 (by omega), fun b hb => (hrest b hb).2, g4⟩
        by_cases ec : c = L[j]
        · rw [ec, pk_us, C4 _ (by omega) hnone]
          exact ⟨rfl, fun v hv => by cases hv⟩
        · rw [pk_un ec, pk_un ec]
          exact C1.2.1 c hc
      | true =>
        rw [if_pos t] at g4
        refine ih _ hj2 ⟨_, a2, _, _, _, _, rfl, ⟨fun i hi => ?_, fun c hc => ?_, C1.2.2⟩, LV_mono (LV_block hB C2 C3 b1 (C4 _ (by omega) hnone) _ hr) (by omega), fun b hb => ?_, g4⟩
        · rw [setU_n (by omega)]
          exact C1.1 i hi
        · by_cases ec : c = L[j]
          · rw [ec, pk_us, pk_us, setU_s]
            exact ⟨rfl, fun v hv => by cases hv; rfl⟩
          · rw [pk_un ec, pk_un ec, setU_n (by omega)]
            exact C1.2.1 c hc
        · rw [setU_n (by have := (hrest b hb).1; omega)]
          exact (hrest b hb).2) 1000 0 (0, macc, free, coin, worth) (Nat.zero_le _) ⟨u00, 0, macc, free, coin, worth, rfl, ⟨fun i hi => ⟨z2 i hi, fun v hv => by cases hv⟩, fun c hc => ⟨z3 c hc, fun v hv => by cases hv⟩, fun t ht => by rw [tb_0]; exact z1 t ht⟩, LV_00, fun b _ => rfl, rfl⟩ (by omega)
  exact ⟨u', a', m', f', c', w', h1, h2, h3⟩
