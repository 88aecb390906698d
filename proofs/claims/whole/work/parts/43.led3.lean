theorem i32_ss (x y z : Int32) : x - y - z = x - (y + z) := by
  apply Int32.toBitVec_inj.mp
  simp only [Int32.toBitVec_sub, Int32.toBitVec_add]
  bv_omega
theorem i32_s0 (x : Int32) : x - nI 0 = x := by
  apply Int32.toBitVec_inj.mp
  show x.toBitVec - 0#32 = _
  bv_omega
theorem e_over {nT nB t : Nat} {u : Nat → Option Nat} {acc : Int64} {ins : Nat → List (Nat × Nat × Int32)} {outs : Nat → List (Int32 × Nat)} {inp src idx sec outp lock amt free coin worth macc : Nat → Int32} (hX : TM nT ins outs inp src idx sec outp lock amt) (hV : TV nT nB ins outs) (hM : LM u acc amt free coin worth macc) (ht : t < nT) (hu : ∀ x ∈ ins t, (u (slt x.1 x.2.1)).isSome = true) : m_mm_over inp src idx amt worth outp (nI t) = some (nI (sumI u (ins t)) - nI (sumO (outs t))) := by
  obtain ⟨hT, hB, hv⟩ := hV
  obtain ⟨v1, v2, v3, v4⟩ := hv t ht
  obtain ⟨h1, h2, h3, h4⟩ := hX t ht
  have k1 : mo_lp (m_mm_over_L4 inp src idx amt worth (nI t)) 1000 (0, 0) = some (nI (sumI u (ins t))) := by
    refine so_eq (lp_ix (ins t).length (fun j z => z = (nI (((ins t).take j).map (valI u)).sum, nI j)) (fun o => o = nI (sumI u (ins t))) ?_ 1000 0 (0, 0) (Nat.zero_le _) rfl (by omega))
    intro back j z hj hz ih
    subst hz
    unfold m_mm_over_L4
    dsimp only
    rw [mo_rIn (by omega) (by decide), h1]
    by_cases e : j = (ins t).length
    · rw [mo_T (nI_le (by omega) (by omega)), e, List.take_length]
      exact ⟨_, rfl, rfl⟩
    · have hj2 : j < (ins t).length := by omega
      obtain ⟨s, i, c, hx⟩ : ∃ s i c, (ins t)[j] = (s, i, c) := ⟨(ins t)[j].1, (ins t)[j].2.1, (ins t)[j].2.2, rfl⟩
      have hg : (ins t)[j]? = some (s, i, c) := by rw [List.getElem?_eq_getElem hj2, hx]
      obtain ⟨q1, q2, q3⟩ := h2 j s i c hg
      obtain ⟨v, hv⟩ := Option.isSome_iff_exists.mp (hu _ (List.mem_of_getElem? hg))
      rw [mo_F (nI_ge hj2 (by omega)), show (2 : Int32) * nI t + nI j = nI (2 * t + j) from ix_m 2 t j, mo_rIn (by omega) (by decide), mo_rIn (by omega) (by decide), q1, q2, e_worthOf hM hT hB (v3 j s i c hg) hv, mo_bs, nI_add, ← nI_succ]
      refine ih _ hj2 ?_
      rw [sum_take _ _ hj2, hx]
      have : valI u (s, i, c) = v := by unfold valI; rw [hv]; rfl
      rw [this]
  have k2 : mo_lp (m_mm_over_L49 amt outp (nI t)) 1000 (nI (sumI u (ins t)), 0) = some (nI (sumI u (ins t)) - nI (sumO (outs t))) := by
    refine so_eq (lp_ix (outs t).length (fun j z => z = (nI (sumI u (ins t)) - nI (((outs t).take j).map Prod.snd).sum, nI j)) (fun o => o = nI (sumI u (ins t)) - nI (sumO (outs t))) ?_ 1000 0 (nI (sumI u (ins t)), 0) (Nat.zero_le _) (by show _ = (nI (sumI u (ins t)) - nI 0, nI 0); rw [i32_s0]; rfl) (by omega))
    intro back j z hj hz ih
    subst hz
    unfold m_mm_over_L49
    dsimp only
    rw [mo_rIn (by omega) (by decide), h3]
    by_cases e : j = (outs t).length
    · rw [mo_T (nI_le (by omega) (by omega)), e, List.take_length]
      exact ⟨_, rfl, rfl⟩
    · have hj2 : j < (outs t).length := by omega
      have h5 := (h4 j (outs t)[j].1 (outs t)[j].2 (List.getElem?_eq_getElem hj2)).2
      rw [mo_F (nI_ge hj2 (by omega)), show (2 : Int32) * nI t + nI j = nI (2 * t + j) from ix_m 2 t j, mo_rIn (by omega) (by decide), h5, i32_ss, nI_add, ← nI_succ]
      exact ih _ hj2 (by rw [sum_take _ _ hj2])
  unfold m_mm_over
  rw [k1, mo_bs, k2, mo_bs]
theorem e_mfits {nT nB t W : Nat} {u : Nat → Option Nat} {acc : Int64} {ins : Nat → List (Nat × Nat × Int32)} {outs : Nat → List (Int32 × Nat)} {inp src idx sec outp lock amt free coin worth macc bl : Nat → Int32} (hX : TM nT ins outs inp src idx sec outp lock amt) (hV : TV nT nB ins outs) (hM : LM u acc amt free coin worth macc) (hW : sumU u 140 ≤ W) (hW2 : W ≤ 100000) (ht : t < nT) : m_mm_fits macc inp src idx free coin lock bl sec amt worth outp (nI t) = some (bI (pB (okT u acc lock bl (ins t) (outs t) t))) := by
  have hV0 := hV
  have so1 := sumO_le hV ht
  have si1 := sumI_le hV ht hW
  obtain ⟨hT, hB, hv⟩ := hV
  obtain ⟨v1, v2, v3, v4⟩ := hv t ht
  obtain ⟨h1, h2, h3, h4⟩ := hX t ht
  unfold m_mm_fits
  rw [mo_rIn (by omega) (by decide), hM.2.2 t (by omega)]
  have fail : ¬ okT u acc lock bl (ins t) (outs t) t → some (0 : Int32) = some (bI (pB (okT u acc lock bl (ins t) (outs t) t))) := by
    intro w
    rw [pB_f w]
    rfl
  cases ha : tb acc t with
  | true =>
    rw [mo_F (by decide)]
    exact fail (fun w => by have w1 := w.1; rw [ha] at w1; cases w1)
  | false =>
    rw [mo_T bI_f, mo_js]
    refine so_eq (lp_ix (ins t).length (fun j z => z = nI j ∧ ∀ x ∈ (ins t).take j, okS u lock bl x) (fun o => o = bI (pB (okT u acc lock bl (ins t) (outs t) t))) ?_ 1000 0 0 (Nat.zero_le _) ⟨rfl, fun x hx => absurd hx (by simp)⟩ (by omega))
    intro back j z hj hz ih
    obtain ⟨rfl, g1⟩ := hz
    unfold m_mm_fits_L13
    rw [mo_rIn (by omega) (by decide), h1]
    by_cases e : j = (ins t).length
    · rw [mo_T (nI_le (by omega) (by omega))]
      rw [e, List.take_length] at g1
      rw [mo_rIn (by omega) (by decide), h1, mo_js, mo_js]
      have hov := e_over hX hV0 hM ht (fun x hx => (g1 x hx).1)
      have fin : adj (ins t) → ∃ o, mo_br ((0 : Int32) = 0) (mo_bd (m_mm_over inp src idx amt worth outp (nI t)) fun r153 => mo_br (r153 < 0) (some (0 : Int32)) (some 1)) (some 0) = some o ∧ o = bI (pB (okT u acc lock bl (ins t) (outs t) t)) := by
        intro hadj
        rw [mo_T rfl, hov, mo_bs]
        by_cases q : sumO (outs t) ≤ sumI u (ins t)
        · rw [pk_sub q, mo_F (nI_pos (by omega))]
          refine ⟨_, rfl, ?_⟩
          rw [pB_t ⟨ha, ⟨g1, hadj⟩, q⟩]
          rfl
        · rw [mo_T (pk_sneg (by omega) (by omega))]
          refine ⟨_, rfl, ?_⟩
          rw [pB_f (fun w => q w.2.2)]
          rfl
      by_cases el : (ins t).length = 2
      · obtain ⟨s, i, c, hx⟩ : ∃ s i c, (ins t)[0]? = some (s, i, c) := ⟨(ins t)[0].1, (ins t)[0].2.1, (ins t)[0].2.2, List.getElem?_eq_getElem (by omega)⟩
        obtain ⟨s', i', c', hx'⟩ : ∃ s i c, (ins t)[1]? = some (s, i, c) := ⟨(ins t)[1].1, (ins t)[1].2.1, (ins t)[1].2.2, List.getElem?_eq_getElem (by omega)⟩
        have o1 := v3 0 s i c hx
        have o2 := v3 1 s' i' c' hx'
        obtain ⟨p1, p2, p3⟩ := h2 0 s i c hx
        obtain ⟨r1, r2, r3⟩ := h2 1 s' i' c' hx'
        have b1 := slt_lt hT hB o1
        have b2 := slt_lt hT hB o2
        rw [Nat.add_zero] at p1 p2 p3
        have hadj : adj (ins t) ↔ ¬ (s = s' ∧ i = i') := by
          rw [← slt_inj hT o1 o2]
          constructor
          · intro w
            exact w 0 _ _ hx hx'
          · intro w k x y hxk hyk
            have hk : k + 1 < (ins t).length := (List.getElem?_eq_some_iff.mp hyk).1
            have : k = 0 := by omega
            subst this
            rw [hx] at hxk
            rw [hx'] at hyk
            cases hxk
            cases hyk
            exact w
        have twice : s = s' ∧ i = i' → ∃ o, mo_br ((1 : Int32) = 0) (mo_bd (m_mm_over inp src idx amt worth outp (nI t)) fun r153 => mo_br (r153 < 0) (some (0 : Int32)) (some 1)) (some 0) = some o ∧ o = bI (pB (okT u acc lock bl (ins t) (outs t) t)) := by
          intro w
          rw [mo_F (by decide)]
          refine ⟨_, rfl, ?_⟩
          rw [pB_f (fun w2 => (hadj.mp w2.2.1.2) w)]
          rfl
        rw [mo_T (show nI (ins t).length = 2 by rw [el]; rfl), show (2 : Int32) * nI t = nI (2 * t) from pk_mul 2 t, show nI (2 * t) + 1 = nI (2 * t + 1) from (nI_succ _).symm, mo_rIn (by omega) (by decide), mo_rIn (by omega) (by decide), p1, r1]
        by_cases e1 : s = s'
        · rw [mo_T (by rw [e1]), mo_rIn (by omega) (by decide), mo_rIn (by omega) (by decide), p2, r2]
          by_cases e2 : i = i'
          · rw [mo_T (by rw [e2])]
            exact twice ⟨e1, e2⟩
          · rw [mo_F (fun w => e2 ((nI_inj (by omega) (by omega)).mp w))]
            exact fin (hadj.mpr (fun w => e2 w.2))
        · rw [mo_F (fun w => e1 ((nI_inj (by omega) (by omega)).mp w))]
          exact fin (hadj.mpr (fun w => e1 w.1))
      · rw [mo_F (show ¬ nI (ins t).length = (2 : Int32) from fun w => el ((nI_inj (b := 2) (by omega) (by decide)).mp w))]
        refine fin (fun k x y hxk hyk => ?_)
        have hk : k + 1 < (ins t).length := (List.getElem?_eq_some_iff.mp hyk).1
        omega
    · have hj2 : j < (ins t).length := by omega
      obtain ⟨s, i, c, hx⟩ : ∃ s i c, (ins t)[j] = (s, i, c) := ⟨(ins t)[j].1, (ins t)[j].2.1, (ins t)[j].2.2, rfl⟩
      have hg : (ins t)[j]? = some (s, i, c) := by rw [List.getElem?_eq_getElem hj2, hx]
      have hmem : (s, i, c) ∈ ins t := List.mem_of_getElem? hg
      obtain ⟨q1, q2, q3⟩ := h2 j s i c hg
      have hok := v3 j s i c hg
      rw [mo_F (nI_ge hj2 (by omega)), show (2 : Int32) * nI t + nI j = nI (2 * t + j) from ix_m 2 t j, mo_rIn (by omega) (by decide), mo_rIn (by omega) (by decide), q1, q2, e_there hM hT hB hok, mo_bs]
      cases hu : (u (slt s i)).isSome with
      | false =>
        rw [mo_T bI_f]
        refine ⟨_, rfl, ?_⟩
        rw [pB_f (fun w => by have := (w.2.1.1 _ hmem).1; rw [hu] at this; cases this)]
        rfl
      | true =>
        rw [mo_F (by decide), e_mlockOf hT hB hok, mo_bs, mo_rIn (by omega) (by decide), q3, e_mmix, mo_bs]
        by_cases qk : lkO lock bl s i = mx 7 c
        · rw [mo_T qk, ← nI_succ]
          refine ih _ hj2 ⟨rfl, fun x hxm => ?_⟩
          rw [(List.take_append_getElem hj2).symm] at hxm
          rcases List.mem_append.mp hxm with w | w
          · exact g1 x w
          · rw [List.mem_singleton.mp w, hx]
            exact ⟨hu, qk⟩
        · rw [mo_F qk]
          refine ⟨_, rfl, ?_⟩
          rw [pB_f (fun w => qk (w.2.1.1 _ hmem).2)]
          rfl
