/-! short rows of numbers; the pool behind a change -/
theorem e_nuAt {f : Nat → Int32} {l : List Nat} {n k : Nat} (h : hL f l) (hn : l.length ≤ n) (hn2 : n ≤ 100) (hk : k < l.length) : m_nu_at (nI l.length) f n (nI k) = some (nI l[k]) := by
  unfold m_nu_at
  rw [mo_F (nI_pos (by omega)), mo_F (nI_ge hk (by omega)), mo_rIn (by omega) (by omega), h k _ (List.getElem?_eq_getElem hk)]
theorem sh_L25 {f : Nat → Int32} {n m k : Nat} (hm : m < n) (hn : n ≤ 100) (hk : k ≤ m) : ∃ g : Nat → Int32, mo_lp (m_nu_removeAt_L25 (nI (m + 1)) n) 1000 (nI k, f) = some g ∧ (∀ i, i < k → g i = f i) ∧ ∀ i, k ≤ i → i < m → g i = f (i + 1) := by
  have em : nI (m + 1) - 1 = nI m := pk_sub (b := 1) (by omega)
  obtain ⟨o, h1, h2, h3⟩ := lp_ix (step := m_nu_removeAt_L25 (nI (m + 1)) n) (m - k) (fun j z => ∃ g : Nat → Int32, z = (nI (k + j), g) ∧ (∀ i, i < k → g i = f i) ∧ (∀ i, k ≤ i → i < k + j → g i = f (i + 1)) ∧ ∀ i, k + j ≤ i → g i = f i) (fun o => (∀ i, i < k → o i = f i) ∧ ∀ i, k ≤ i → i < m → o i = f (i + 1)) (by
    intro back j z hj hz ih
    obtain ⟨g, rfl, g1, g2, g3⟩ := hz
    unfold m_nu_removeAt_L25
    dsimp only
    rw [em]
    by_cases e : j = m - k
    · rw [mo_T (nI_le (by omega) (by omega))]
      exact ⟨_, rfl, g1, fun i h1 h2 => g2 i h1 (by omega)⟩
    · rw [mo_F (nI_ge (by omega) (by omega)), ← nI_succ, mo_rIn (by omega) (by omega), mo_wIn (by omega) (by omega), g3 _ (by omega)]
      refine ih _ (by omega) ⟨_, rfl, fun i hi => ?_, fun i h1 h2 => ?_, fun i hi => ?_⟩
      · rw [pk_un (by omega)]; exact g1 i hi
      · by_cases ei : i = k + j
        · rw [ei, pk_us]
        · rw [pk_un ei]; exact g2 i h1 (by omega)
      · rw [pk_un (by omega)]; exact g3 i (by omega)) 1000 0 (nI k, f) (Nat.zero_le _) ⟨f, rfl, fun _ _ => rfl, fun i h1 h2 => by omega, fun _ _ => rfl⟩ (by omega)
  exact ⟨o, h1, h2, h3⟩
theorem hL_rem {f g : Nat → Int32} {A r : List Nat} {t : Nat} (h : hL f (A ++ t :: r)) (g1 : ∀ i, i < A.length → g i = f i) (g2 : ∀ i, A.length ≤ i → i < A.length + r.length → g i = f (i + 1)) : hL g (A ++ r) := by
  intro k b hk
  rw [List.getElem?_append] at hk
  by_cases e : k < A.length
  · rw [if_pos e] at hk
    rw [g1 k e]
    exact h k b (by rw [List.getElem?_append, if_pos e]; exact hk)
  · rw [if_neg e] at hk
    have hl := (List.getElem?_eq_some_iff.mp hk).1
    rw [g2 k (by omega) (by omega)]
    refine h (k + 1) b ?_
    rw [List.getElem?_append, if_neg (by omega), show k + 1 - A.length = (k - A.length) + 1 by omega, List.getElem?_cons_succ]
    exact hk
theorem e_nuRemove {f : Nat → Int32} {A r : List Nat} {t n : Nat} (h : hL f (A ++ t :: r)) (hn : (A ++ t :: r).length ≤ n) (hn2 : n ≤ 100) : ∃ g : Nat → Int32, m_nu_removeAt (nI (A ++ t :: r).length) f n (nI A.length) = some (nI (A ++ r).length, g) ∧ hL g (A ++ r) := by
  have hlen : (A ++ t :: r).length = A.length + r.length + 1 := by rw [List.length_append, List.length_cons]; omega
  have hlen2 : (A ++ r).length = A.length + r.length := List.length_append
  rw [hlen] at hn
  obtain ⟨g, E, g1, g2⟩ := sh_L25 (f := f) (n := n) (m := A.length + r.length) (k := A.length) (by omega) hn2 (by omega)
  refine ⟨g, ?_, hL_rem h g1 g2⟩
  unfold m_nu_removeAt
  rw [hlen, hlen2, mo_F (nI_pos (by omega)), mo_T (nI_lt (by omega) (by omega)), E, mo_bs, show nI (A.length + r.length + 1) - 1 = nI (A.length + r.length) from pk_sub (b := 1) (by omega)]
/-- those of a row that may be done, one behind another, and what stands behind them -/
noncomputable def flt (ins : Nat → List (Nat × Nat × Int32)) (outs : Nat → List (Int32 × Nat)) (ol bl : Nat → Int32) : List Nat → (Nat → Option Nat) × Int64 × Nat → List Nat × (Nat → Option Nat) × Int64 × Nat
  | [], z => ([], z)
  | t :: l, z => if pB (okT z.1 z.2.1 ol bl (ins t) (outs t) t) = true then (t :: (flt ins outs ol bl l (run1 ins outs ol bl t z)).1, (flt ins outs ol bl l (run1 ins outs ol bl t z)).2) else flt ins outs ol bl l z
theorem flt_t {ins : Nat → List (Nat × Nat × Int32)} {outs : Nat → List (Int32 × Nat)} {ol bl : Nat → Int32} {t : Nat} {l : List Nat} {z : (Nat → Option Nat) × Int64 × Nat} (h : okT z.1 z.2.1 ol bl (ins t) (outs t) t) : flt ins outs ol bl (t :: l) z = (t :: (flt ins outs ol bl l (run1 ins outs ol bl t z)).1, (flt ins outs ol bl l (run1 ins outs ol bl t z)).2) := if_pos (pB_t h)
theorem flt_f {ins : Nat → List (Nat × Nat × Int32)} {outs : Nat → List (Int32 × Nat)} {ol bl : Nat → Int32} {t : Nat} {l : List Nat} {z : (Nat → Option Nat) × Int64 × Nat} (h : ¬ okT z.1 z.2.1 ol bl (ins t) (outs t) t) : flt ins outs ol bl (t :: l) z = flt ins outs ol bl l z := if_neg (by rw [pB_f h]; decide)
theorem e_followL41 {nT nB W : Nat} {ins : Nat → List (Nat × Nat × Int32)} {outs : Nat → List (Int32 × Nat)} {ic islot ilock oc olock oamt bl : Nat → Int32} {p0 : Nat} (hX : TX nT ins outs ic islot ilock oc olock oamt) (hV : TV nT nB ins outs) (hW2 : W ≤ 100000) (hp8 : p0 ≤ 8) : ∀ (r A : List Nat) (u : Nat → Option Nat) (acc : Int64) (F f : Nat) (am held : Nat → Int32), (∀ t ∈ r, t < nT) → A.length + r.length ≤ 8 → r.length ≤ p0 → LC u am → LV u acc nT nB (W - F) outs → F ≤ W → hL held (A ++ r) → r.length < f → ∃ (u' : Nat → Option Nat) (a' : Int64) (F' : Nat) (K : List Nat) (am' held' : Nat → Int32), flt ins outs olock bl r (u, acc, F) = (K, u', a', F') ∧ mo_lp (m_bm_followDag_L41 ic islot olock bl ilock oc oamt (nI p0)) f (nI A.length, nI (p0 - r.length), acc, am, nI (A ++ r).length, held) = some (a', am', nI (A ++ K).length, held') ∧ LC u' am' ∧ LV u' a' nT nB (W - F') outs ∧ F' ≤ W ∧ hL held' (A ++ K) := by
  intro r
  induction r with
  | nil =>
    intro A u acc F f am held _ hl8 _ hC hL hF hh hf
    obtain ⟨f, rfl⟩ : ∃ g, f = g + 1 := ⟨f - 1, by simp at hf; omega⟩
    refine ⟨u, acc, F, [], am, held, rfl, ?_, hC, hL, hF, hh⟩
    show m_bm_followDag_L41 ic islot olock bl ilock oc oamt (nI p0) (mo_lp (m_bm_followDag_L41 ic islot olock bl ilock oc oamt (nI p0)) f) _ = _
    generalize mo_lp (m_bm_followDag_L41 ic islot olock bl ilock oc oamt (nI p0)) f = back
    unfold m_bm_followDag_L41
    dsimp only
    exact mo_T (nI_le (Nat.le_refl _) (by omega))
  | cons t r ih =>
    intro A u acc F f am held hr hl8 hp hC hL hF hh hf
    rw [List.length_cons] at hl8 hp hf
    obtain ⟨f, rfl⟩ : ∃ g, f = g + 1 := ⟨f - 1, by omega⟩
    have ht := hr t List.mem_cons_self
    have hrr : ∀ s ∈ r, s < nT := fun s hs => hr s (List.mem_cons_of_mem _ hs)
    have hlen : (A ++ t :: r).length = A.length + r.length + 1 := by rw [List.length_append, List.length_cons]; omega
    have hat : m_nu_at (nI (A ++ t :: r).length) held 8 (nI A.length) = some (nI t) := by
      rw [e_nuAt hh (by omega) (by omega) (by omega)]
      congr 2
      rw [List.getElem_append_right (Nat.le_refl _)]
      simp
    obtain ⟨A1, A2⟩ := e_accept (acc := acc) (bl := bl) hX hV hC hL.2.2.1 (by omega) ht
    by_cases q : okT u acc olock bl (ins t) (outs t) t
    · obtain ⟨am1, E, hC'⟩ := A1 q
      obtain ⟨hL', hfee, hn⟩ := LV_tx hV hL ht q
      have si := sumI_le hV ht hL.2.2.1
      obtain ⟨u', a', F', K, am', held', R1, R2, R3, R4, R5, R6⟩ := ih (A ++ [t]) _ (acc ||| bi t) (F + (sumI u (ins t) - sumO (outs t))) f am1 held hrr (by rw [List.length_append]; simp; omega) (by omega) hC' (by
        rw [show W - (F + (sumI u (ins t) - sumO (outs t))) = W - F - (sumI u (ins t) - sumO (outs t)) by omega]
        exact hL') (by omega) (by rw [List.append_assoc]; exact hh) (by omega)
      refine ⟨u', a', F', t :: K, am', held', ?_, ?_, R3, R4, R5, by rw [List.append_assoc] at R6; exact R6⟩
      · have R1 : flt ins outs olock bl r (aft t (ins t) (outs t) u, acc ||| bi t, F + (sumI u (ins t) - sumO (outs t))) = (K, u', a', F') := R1
        rw [flt_t (z := (u, acc, F)) q, run1_t q, R1]
      · show m_bm_followDag_L41 ic islot olock bl ilock oc oamt (nI p0) (mo_lp (m_bm_followDag_L41 ic islot olock bl ilock oc oamt (nI p0)) f) _ = _
        generalize mo_lp (m_bm_followDag_L41 ic islot olock bl ilock oc oamt (nI p0)) f = back at R2 ⊢
        unfold m_bm_followDag_L41
        dsimp only
        rw [mo_F (nI_ge (by rw [List.length_cons]; omega) (by omega)), hat, mo_bs, E, mo_bs]
        dsimp only
        rw [mo_js, mo_F (nI_nm1 (by omega)), ← nI_succ, ← nI_succ]
        rw [List.append_assoc, List.append_assoc, show (A ++ [t]).length = A.length + 1 by simp, show p0 - r.length = p0 - (t :: r).length + 1 by rw [List.length_cons]; omega] at R2
        exact R2
    · obtain ⟨g, E2, hg⟩ := e_nuRemove (n := 8) hh (by omega) (by omega)
      obtain ⟨u', a', F', K, am', held', R1, R2, R3, R4, R5, R6⟩ := ih A u acc F f am g hrr (by omega) (by omega) hC hL hF hg (by omega)
      refine ⟨u', a', F', K, am', held', ?_, ?_, R3, R4, R5, R6⟩
      · rw [flt_f (z := (u, acc, F)) q, R1]
      · show m_bm_followDag_L41 ic islot olock bl ilock oc oamt (nI p0) (mo_lp (m_bm_followDag_L41 ic islot olock bl ilock oc oamt (nI p0)) f) _ = _
        generalize mo_lp (m_bm_followDag_L41 ic islot olock bl ilock oc oamt (nI p0)) f = back at R2 ⊢
        unfold m_bm_followDag_L41
        dsimp only
        rw [mo_F (nI_ge (by rw [List.length_cons]; omega) (by omega)), hat, mo_bs, A2 q, mo_bs]
        dsimp only
        rw [mo_js, mo_T rfl, E2, mo_bs, ← nI_succ]
        rw [show p0 - r.length = p0 - (t :: r).length + 1 by rw [List.length_cons]; omega] at R2
        exact R2
theorem e_settleL8 {nT nB W : Nat} {ins : Nat → List (Nat × Nat × Int32)} {outs : Nat → List (Int32 × Nat)} {ic islot ilock oc olock oamt bl inp src idx sec outp lock amt worth mbl : Nat → Int32} {p0 : Nat} (hX : TX nT ins outs ic islot ilock oc olock oamt) (hY : TM nT ins outs inp src idx sec outp lock amt) (hV : TV nT nB ins outs) (hW2 : W ≤ 100000) (hlk : ∀ c, c < nB → mbl c = bl c) (hp8 : p0 ≤ 8) : ∀ (r A : List Nat) (u : Nat → Option Nat) (acc : Int64) (F f : Nat) (macc free coin pool : Nat → Int32), (∀ t ∈ r, t < nT) → A.length + r.length ≤ p0 → LM u acc amt free coin worth macc → LV u acc nT nB (W - F) outs → F ≤ W → hL pool A → (∀ i t, r[i]? = some t → pool (p0 - r.length + i) = nI t) → r.length < f → ∃ (u' : Nat → Option Nat) (a' : Int64) (F' : Nat) (K : List Nat) (m' f' c' pool' : Nat → Int32), flt ins outs olock bl r (u, acc, F) = (K, u', a', F') ∧ mo_lp (m_mm_settle_L8 (nI p0) inp src idx lock mbl sec amt outp worth) f (nI A.length, nI (p0 - r.length), macc, free, coin, pool) = some (nI (A ++ K).length, m', f', c', pool') ∧ LM u' a' amt f' c' worth m' ∧ hL pool' (A ++ K) := by
  intro r
  induction r with
  | nil =>
    intro A u acc F f macc free coin pool _ hl8 hM hL hF hh _ hf
    obtain ⟨f, rfl⟩ : ∃ g, f = g + 1 := ⟨f - 1, by simp at hf; omega⟩
    refine ⟨u, acc, F, [], macc, free, coin, pool, rfl, ?_, hM, by rw [List.append_nil]; exact hh⟩
    show m_mm_settle_L8 (nI p0) inp src idx lock mbl sec amt outp worth (mo_lp (m_mm_settle_L8 (nI p0) inp src idx lock mbl sec amt outp worth) f) _ = _
    generalize mo_lp (m_mm_settle_L8 (nI p0) inp src idx lock mbl sec amt outp worth) f = back
    unfold m_mm_settle_L8
    dsimp only
    rw [List.append_nil]
    exact mo_T (nI_le (Nat.le_refl _) (by omega))
  | cons t r ih =>
    intro A u acc F f macc free coin pool hr hl8 hM hL hF hh hrest hf
    rw [List.length_cons] at hl8 hf
    obtain ⟨f, rfl⟩ : ∃ g, f = g + 1 := ⟨f - 1, by omega⟩
    have ht := hr t List.mem_cons_self
    have hrr : ∀ s ∈ r, s < nT := fun s hs => hr s (List.mem_cons_of_mem _ hs)
    have hpt := hrest 0 t rfl
    rw [Nat.add_zero] at hpt
    have hpr : ∀ i s, r[i]? = some s → pool (p0 - r.length + i) = nI s := fun i s hs => by
      have := hrest (i + 1) s hs
      rw [List.length_cons, show p0 - (r.length + 1) + (i + 1) = p0 - r.length + i by omega] at this
      exact this
    have hiff := okT_lk hX hY hV hL hlk ht
    have hl : (t :: r).length = r.length + 1 := List.length_cons
    by_cases q : okT u acc olock bl (ins t) (outs t) t
    · obtain ⟨m1, f1, c1, E, hM'⟩ := e_take (bl := mbl) hY hV hM hL.2.2.1 (by omega) ht (hiff.mpr q)
      obtain ⟨hL', hfee, hn⟩ := LV_tx hV hL ht q
      obtain ⟨u', a', F', K, m', f', c', pool', R1, R2, R3, R4⟩ := ih (A ++ [t]) _ (acc ||| bi t) (F + (sumI u (ins t) - sumO (outs t))) f m1 f1 c1 (upd pool A.length (nI t)) hrr (by rw [List.length_append]; simp; omega) hM' (by
        rw [show W - (F + (sumI u (ins t) - sumO (outs t))) = W - F - (sumI u (ins t) - sumO (outs t)) by omega]
        exact hL') (by omega) (hL_snoc hh t) (fun i s hs => by
          rw [pk_un (by omega)]
          exact hpr i s hs) (by omega)
      refine ⟨u', a', F', t :: K, m', f', c', pool', ?_, ?_, R3, by rw [List.append_assoc] at R4; exact R4⟩
      · have R1 : flt ins outs olock bl r (aft t (ins t) (outs t) u, acc ||| bi t, F + (sumI u (ins t) - sumO (outs t))) = (K, u', a', F') := R1
        rw [flt_t (z := (u, acc, F)) q, run1_t q, R1]
      · show m_mm_settle_L8 (nI p0) inp src idx lock mbl sec amt outp worth (mo_lp (m_mm_settle_L8 (nI p0) inp src idx lock mbl sec amt outp worth) f) _ = _
        generalize mo_lp (m_mm_settle_L8 (nI p0) inp src idx lock mbl sec amt outp worth) f = back at R2 ⊢
        unfold m_mm_settle_L8
        dsimp only
        rw [mo_F (nI_ge (by omega) (by omega)), mo_rIn (by omega) (by decide), hpt, e_mfits (bl := mbl) hY hV hM hL.2.2.1 (by omega) ht, mo_bs, mo_js, pB_t (hiff.mpr q), mo_F (by decide), mo_rIn (by omega) (by decide), hpt, E, mo_bs]
        dsimp only
        rw [mo_rIn (by omega) (by decide), hpt, mo_wIn (by omega) (by decide), ← nI_succ, ← nI_succ]
        rw [List.append_assoc, show (A ++ [t]).length = A.length + 1 by simp, show p0 - r.length = p0 - (t :: r).length + 1 by omega] at R2
        exact R2
    · obtain ⟨u', a', F', K, m', f', c', pool', R1, R2, R3, R4⟩ := ih A u acc F f macc free coin pool hrr (by omega) hM hL hF hh hpr (by omega)
      refine ⟨u', a', F', K, m', f', c', pool', ?_, ?_, R3, R4⟩
      · rw [flt_f (z := (u, acc, F)) q, R1]
      · show m_mm_settle_L8 (nI p0) inp src idx lock mbl sec amt outp worth (mo_lp (m_mm_settle_L8 (nI p0) inp src idx lock mbl sec amt outp worth) f) _ = _
        generalize mo_lp (m_mm_settle_L8 (nI p0) inp src idx lock mbl sec amt outp worth) f = back at R2 ⊢
        unfold m_mm_settle_L8
        dsimp only
        rw [mo_F (nI_ge (by omega) (by omega)), mo_rIn (by omega) (by decide), hpt, e_mfits (bl := mbl) hY hV hM hL.2.2.1 (by omega) ht, mo_bs, mo_js, pB_f (fun w => q (hiff.mp w)), mo_T bI_f, ← nI_succ]
        rw [show p0 - r.length = p0 - (t :: r).length + 1 by omega] at R2
        exact R2
