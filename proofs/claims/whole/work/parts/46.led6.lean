/-! the transactions of a block, on each side -/
theorem run1_t {ins : Nat → List (Nat × Nat × Int32)} {outs : Nat → List (Int32 × Nat)} {ol bl : Nat → Int32} {t : Nat} {u : Nat → Option Nat} {a : Int64} {F : Nat} (h : okT u a ol bl (ins t) (outs t) t) : run1 ins outs ol bl t (u, a, F) = (aft t (ins t) (outs t) u, a ||| bi t, F + (sumI u (ins t) - sumO (outs t))) := if_pos (pB_t h)
theorem run1_f {ins : Nat → List (Nat × Nat × Int32)} {outs : Nat → List (Int32 × Nat)} {ol bl : Nat → Int32} {t : Nat} {u : Nat → Option Nat} {a : Int64} {F : Nat} (h : ¬ okT u a ol bl (ins t) (outs t) t) : run1 ins outs ol bl t (u, a, F) = (u, a, F) := if_neg (by rw [pB_f h]; decide)
theorem max_f (n : Nat) (h : n < 2 ^ 31) : mo_max (nI n) 0 = nI n := if_neg (nI_pos h)
theorem max_m1 : mo_max (-1) 0 = 0 := by decide
theorem e_repL36 {nT nB b W : Nat} {I : Nat → List Nat} {u : Nat → Option Nat} {acc : Int64} {ins : Nat → List (Nat × Nat × Int32)} {outs : Nat → List (Int32 × Nat)} {fic fi ic islot ilock oc olock oamt am bl : Nat → Int32} (hI : BP 3 nB I fic fi) (hIt : ∀ t ∈ I b, t < nT) (hX : TX nT ins outs ic islot ilock oc olock oamt) (hV : TV nT nB ins outs) (hC : LC u am) (hL : LV u acc nT nB W outs) (hW2 : W ≤ 100000) (hb : b < nB) : ∃ o, mo_lp (m_le_replay_L36 fic fi ic islot olock bl ilock oc oamt (nI b)) 1000 (0, 0, acc, am) = some o ∧ ∃ (u' : Nat → Option Nat) (a' : Int64) (F : Nat) (am' : Nat → Int32), runT ins outs olock bl (I b) (u, acc, 0) = (u', a', F) ∧ o = (nI F, a', am') ∧ LC u' am' ∧ LV u' a' nT nB (W - F) outs ∧ F ≤ W ∧ ∀ c, c < 60 → u (80 + c) = none → u' (80 + c) = none := by
  obtain ⟨h1, h2, h3⟩ := hI b hb
  have hB := hV.2.1
  refine lp_ix (I b).length (fun j z => ∃ (u1 : Nat → Option Nat) (a1 : Int64) (F1 : Nat) (g : Nat → Int32), z = (nI F1, nI j, a1, g) ∧ LC u1 g ∧ LV u1 a1 nT nB (W - F1) outs ∧ F1 ≤ W ∧ (∀ c, c < 60 → u (80 + c) = none → u1 (80 + c) = none) ∧ runT ins outs olock bl ((I b).drop j) (u1, a1, F1) = runT ins outs olock bl (I b) (u, acc, 0)) (fun o => ∃ (u' : Nat → Option Nat) (a' : Int64) (F : Nat) (am' : Nat → Int32), runT ins outs olock bl (I b) (u, acc, 0) = (u', a', F) ∧ o = (nI F, a', am') ∧ LC u' am' ∧ LV u' a' nT nB (W - F) outs ∧ F ≤ W ∧ ∀ c, c < 60 → u (80 + c) = none → u' (80 + c) = none) ?_ 1000 0 (0, 0, acc, am) (Nat.zero_le _) ⟨u, acc, 0, am, rfl, hC, hL, Nat.zero_le _, fun _ _ q => q, rfl⟩ (by omega)
  intro back j z hj hz ih
  obtain ⟨u1, a1, F1, g, rfl, g1, g2, g3, g4, g5⟩ := hz
  unfold m_le_replay_L36
  dsimp only
  rw [mo_rIn (by omega) (by decide), h1]
  by_cases e : j = (I b).length
  · rw [mo_T (nI_le (by omega) (by omega))]
    rw [e, List.drop_length] at g5
    exact ⟨_, rfl, u1, a1, F1, g, g5.symm, rfl, g1, g2, g3, g4⟩
  · have hj2 : j < (I b).length := by omega
    have hg := List.getElem?_eq_getElem hj2
    have h4 := (h3 j _ hg).1
    have ht : (I b)[j] < nT := hIt _ (List.getElem_mem hj2)
    have hT := hV.1
    rw [mo_F (nI_ge hj2 (by omega))]
    unfold m_bl_includedAt
    rw [show nI b * 3 + nI j = nI (3 * b + j) from ix_c 3 b j, mo_rIn (by omega) (by decide), mo_bs, h4]
    rw [runT_drop hj2] at g5
    obtain ⟨A1, A2⟩ := e_accept (acc := a1) (bl := bl) hX hV g1 g2.2.2.1 (by omega) ht
    by_cases q : okT u1 a1 olock bl (ins (I b)[j]) (outs (I b)[j]) (I b)[j]
    · obtain ⟨am', E, hC'⟩ := A1 q
      obtain ⟨hL', hfee, hn⟩ := LV_tx hV g2 ht q
      rw [E, mo_bs]
      dsimp only
      rw [max_f _ (by omega), nI_add, ← nI_succ]
      rw [run1_t q] at g5
      refine ih _ hj2 ⟨_, _, F1 + (sumI u1 (ins (I b)[j]) - sumO (outs (I b)[j])), am', rfl, hC', ?_, by omega, fun c hc hq => hn c hc (g4 c hc hq), g5⟩
      rw [show W - (F1 + (sumI u1 (ins (I b)[j]) - sumO (outs (I b)[j]))) = W - F1 - (sumI u1 (ins (I b)[j]) - sumO (outs (I b)[j])) by omega]
      exact hL'
    · rw [A2 q, mo_bs]
      dsimp only
      rw [max_m1, show nI F1 + 0 = nI F1 from nI_add F1 0, ← nI_succ]
      rw [run1_f q] at g5
      exact ih _ hj2 ⟨u1, a1, F1, g, rfl, g1, g2, g3, g4, g5⟩
theorem e_payL4 {nT nB b W : Nat} {I : Nat → List Nat} {u : Nat → Option Nat} {acc : Int64} {ins : Nat → List (Nat × Nat × Int32)} {outs : Nat → List (Int32 × Nat)} {ic islot ilock oc olock oamt bl hol held inp src idx sec outp lock amt free coin worth macc mbl : Nat → Int32} (hI : BP 3 nB I hol held) (hIt : ∀ t ∈ I b, t < nT) (hX : TX nT ins outs ic islot ilock oc olock oamt) (hY : TM nT ins outs inp src idx sec outp lock amt) (hV : TV nT nB ins outs) (hM : LM u acc amt free coin worth macc) (hL : LV u acc nT nB W outs) (hW2 : W ≤ 100000) (hlk : ∀ c, c < nB → mbl c = bl c) (hb : b < nB) : ∃ o, mo_lp (m_mm_pay_L4 hol held inp src idx lock mbl sec amt worth outp (nI b)) 1000 (0, 0, macc, free, coin) = some o ∧ ∃ (u' : Nat → Option Nat) (a' : Int64) (F : Nat) (macc' free' coin' : Nat → Int32), runT ins outs olock bl (I b) (u, acc, 0) = (u', a', F) ∧ o = (nI F, macc', free', coin') ∧ LM u' a' amt free' coin' worth macc' := by
  obtain ⟨h1, h2, h3⟩ := hI b hb
  have hB := hV.2.1
  refine lp_ix (I b).length (fun j z => ∃ (u1 : Nat → Option Nat) (a1 : Int64) (F1 : Nat) (m1 f1 c1 : Nat → Int32), z = (nI F1, nI j, m1, f1, c1) ∧ LM u1 a1 amt f1 c1 worth m1 ∧ LV u1 a1 nT nB (W - F1) outs ∧ F1 ≤ W ∧ runT ins outs olock bl ((I b).drop j) (u1, a1, F1) = runT ins outs olock bl (I b) (u, acc, 0)) (fun o => ∃ (u' : Nat → Option Nat) (a' : Int64) (F : Nat) (macc' free' coin' : Nat → Int32), runT ins outs olock bl (I b) (u, acc, 0) = (u', a', F) ∧ o = (nI F, macc', free', coin') ∧ LM u' a' amt free' coin' worth macc') ?_ 1000 0 (0, 0, macc, free, coin) (Nat.zero_le _) ⟨u, acc, 0, macc, free, coin, rfl, hM, hL, Nat.zero_le _, rfl⟩ (by omega)
  intro back j z hj hz ih
  obtain ⟨u1, a1, F1, m1, f1, c1, rfl, g1, g2, g3, g5⟩ := hz
  unfold m_mm_pay_L4
  dsimp only
  rw [mo_rIn (by omega) (by decide), h1]
  by_cases e : j = (I b).length
  · rw [mo_T (nI_le (by omega) (by omega))]
    rw [e, List.drop_length] at g5
    exact ⟨_, rfl, u1, a1, F1, m1, f1, c1, g5.symm, rfl, g1⟩
  · have hj2 : j < (I b).length := by omega
    have hg := List.getElem?_eq_getElem hj2
    have h4 := (h3 j _ hg).1
    have ht : (I b)[j] < nT := hIt _ (List.getElem_mem hj2)
    have hT := hV.1
    rw [mo_F (nI_ge hj2 (by omega)), show (3 : Int32) * nI b + nI j = nI (3 * b + j) from ix_m 3 b j, mo_rIn (by omega) (by decide), h4, e_mfits (bl := mbl) hY hV g1 g2.2.2.1 (by omega) ht, mo_bs, mo_js]
    rw [runT_drop hj2] at g5
    have hiff := okT_lk hX hY hV g2 hlk ht
    by_cases q : okT u1 a1 olock bl (ins (I b)[j]) (outs (I b)[j]) (I b)[j]
    · obtain ⟨m', f', c', E, hM'⟩ := e_take (bl := mbl) hY hV g1 g2.2.2.1 (by omega) ht (hiff.mpr q)
      obtain ⟨hL', hfee, hn⟩ := LV_tx hV g2 ht q
      rw [pB_t (hiff.mpr q), mo_F (by decide), E, mo_bs]
      dsimp only
      rw [nI_add, ← nI_succ]
      rw [run1_t q] at g5
      refine ih _ hj2 ⟨_, _, F1 + (sumI u1 (ins (I b)[j]) - sumO (outs (I b)[j])), m', f', c', rfl, hM', ?_, by omega, g5⟩
      rw [show W - (F1 + (sumI u1 (ins (I b)[j]) - sumO (outs (I b)[j]))) = W - F1 - (sumI u1 (ins (I b)[j]) - sumO (outs (I b)[j])) by omega]
      exact hL'
    · rw [pB_f (fun w => q (hiff.mp w)), mo_T bI_f, ← nI_succ]
      rw [run1_f q] at g5
      exact ih _ hj2 ⟨u1, a1, F1, m1, f1, c1, rfl, g1, g2, g3, g5⟩
/-- a block's reward -/
def rew (s : Nat) : Nat := 64 / 2 ^ (s / 8)
theorem rew_c : ∀ s, s < 65 → (64 : Int32) >>> ((nI s / 8) &&& 31) = nI (rew s) := by decide +kernel
theorem rew_0 : ∀ s, s < 65 → 56 ≤ s → rew s = 0 := by decide +kernel
theorem rew_le (s : Nat) : rew s ≤ 64 := Nat.div_le_self _ _
/-- a block done -/
noncomputable def runB1 (ins : Nat → List (Nat × Nat × Int32)) (outs : Nat → List (Int32 × Nat)) (ol bl : Nat → Int32) (I : Nat → List Nat) (B : Int64) (sc : Nat → Nat) (b : Nat) (z : (Nat → Option Nat) × Int64) : (Nat → Option Nat) × Int64 := (if tb B b = true then setU (runT ins outs ol bl (I b) (z.1, z.2, 0)).1 (80 + b) (some (rew (sc b) + (runT ins outs ol bl (I b) (z.1, z.2, 0)).2.2)) else (runT ins outs ol bl (I b) (z.1, z.2, 0)).1, (runT ins outs ol bl (I b) (z.1, z.2, 0)).2.1)
noncomputable def runB (ins : Nat → List (Nat × Nat × Int32)) (outs : Nat → List (Int32 × Nat)) (ol bl : Nat → Int32) (I : Nat → List Nat) (B : Int64) (sc : Nat → Nat) : List Nat → (Nat → Option Nat) × Int64 → (Nat → Option Nat) × Int64
  | [], z => z
  | b :: l, z => runB ins outs ol bl I B sc l (runB1 ins outs ol bl I B sc b z)
theorem runB_drop {ins : Nat → List (Nat × Nat × Int32)} {outs : Nat → List (Int32 × Nat)} {ol bl : Nat → Int32} {I : Nat → List Nat} {B : Int64} {sc : Nat → Nat} {l : List Nat} {j : Nat} (hj : j < l.length) (z : (Nat → Option Nat) × Int64) : runB ins outs ol bl I B sc (l.drop j) z = runB ins outs ol bl I B sc (l.drop (j + 1)) (runB1 ins outs ol bl I B sc l[j] z) := by
  rw [List.drop_eq_getElem_cons hj]
  rfl
theorem runB1_v {ins : Nat → List (Nat × Nat × Int32)} {outs : Nat → List (Int32 × Nat)} {ol bl : Nat → Int32} {I : Nat → List Nat} {B : Int64} {sc : Nat → Nat} {b F : Nat} {u u' : Nat → Option Nat} {a a' : Int64} (h : runT ins outs ol bl (I b) (u, a, 0) = (u', a', F)) : runB1 ins outs ol bl I B sc b (u, a) = (if tb B b = true then setU u' (80 + b) (some (rew (sc b) + F)) else u', a') := by
  unfold runB1
  rw [h]
/-- the ledger's relation behind a block -/
theorem LV_block {nT nB b W F : Nat} {u : Nat → Option Nat} {acc : Int64} {outs : Nat → List (Int32 × Nat)} (hB : nB ≤ 60) (hL : LV u acc nT nB (W - F) outs) (hF : F ≤ W) (hb : b < nB) (hn : u (80 + b) = none) (r : Nat) (hr : r ≤ 64) : LV (setU u (80 + b) (some (r + F))) acc nT nB (W + 64) outs := by
  obtain ⟨l1, l2, l3, l4⟩ := hL
  refine ⟨fun t k v ht hk hv => ?_, fun c v hc hv => ?_, ?_, l4⟩
  · rw [setU_n (by omega)] at hv
    exact l1 t k v ht hk hv
  · by_cases e : c = b
    · rw [e]; exact hb
    · rw [setU_n (by omega)] at hv
      exact l2 c v hc hv
  · have h2 := sumU_set (u := u) (j := 80 + b) (x := some (r + F)) (n := 140)
    rw [if_pos (by omega), if_pos (by omega), hn] at h2
    have h5 : (some (r + F) : Option Nat).getD 0 = r + F := rfl
    have h6 : (none : Option Nat).getD 0 = 0 := rfl
    rw [h5, h6] at h2
    omega
theorem LV_mono {nT nB W W' : Nat} {u : Nat → Option Nat} {acc : Int64} {outs : Nat → List (Int32 × Nat)} (hL : LV u acc nT nB W outs) (h : W ≤ W') : LV u acc nT nB W' outs := ⟨hL.1, hL.2.1, Nat.le_trans hL.2.2.1 h, hL.2.2.2⟩
