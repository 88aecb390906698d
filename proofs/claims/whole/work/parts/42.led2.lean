/-! whether a transaction may be done: the class's inputSum and feeOf, the reference's fits and over -/
def adj (l : List (Nat × Nat × Int32)) : Prop := ∀ (k : Nat) (x y : Nat × Nat × Int32), l[k]? = some x → l[k + 1]? = some y → slt x.1 x.2.1 ≠ slt y.1 y.2.1
def okA (u : Nat → Option Nat) (ol bl : Nat → Int32) (l : List (Nat × Nat × Int32)) : Prop := (∀ x ∈ l, okS u ol bl x) ∧ adj l
theorem e_inputSum {nT nB t W : Nat} {u : Nat → Option Nat} {ins : Nat → List (Nat × Nat × Int32)} {outs : Nat → List (Int32 × Nat)} {ic islot ilock oc olock oamt am bl : Nat → Int32} (hX : TX nT ins outs ic islot ilock oc olock oamt) (hV : TV nT nB ins outs) (hC : LC u am) (hW : sumU u 140 ≤ W) (hW2 : W ≤ 100000) (ht : t < nT) : m_le_inputSum ic islot am olock bl ilock (nI t) = some (if pB (okA u olock bl (ins t)) = true then nI (sumI u (ins t)) else -1) := by
  obtain ⟨hT, hB, hv⟩ := hV
  obtain ⟨v1, v2, v3, v4⟩ := hv t ht
  obtain ⟨h1, h2, h3, h4⟩ := hX t ht
  have hu : ∀ j, j < 140 → ∀ v, u j = some v → v ≤ W := fun j hj v hv => by
    have := sumU_ge (u := u) hj
    rw [hv] at this
    exact Nat.le_trans this hW
  unfold m_le_inputSum
  refine so_eq (lp_ix (ins t).length (fun j z => z = (nI (((ins t).take j).map (valI u)).sum, (match j with
    | 0 => -1
    | j + 1 => nI (slt ((ins t).getD j (0, 0, 0)).1 ((ins t).getD j (0, 0, 0)).2.1)), nI j) ∧ (∀ x ∈ (ins t).take j, okS u olock bl x) ∧ (∀ (k : Nat) (x y : Nat × Nat × Int32), k + 1 < j → (ins t)[k]? = some x → (ins t)[k + 1]? = some y → slt x.1 x.2.1 ≠ slt y.1 y.2.1)) (fun o => o = if pB (okA u olock bl (ins t)) = true then nI (sumI u (ins t)) else -1) ?_ 1000 0 (0, -1, 0) (Nat.zero_le _) ⟨rfl, fun x hx => absurd hx (by simp), fun k x y h => by omega⟩ (by omega))
  intro back j z hj hz ih
  obtain ⟨rfl, g1, g2⟩ := hz
  unfold m_le_inputSum_L7
  dsimp only
  rw [mo_rIn (by omega) (by decide), h1]
  by_cases e : j = (ins t).length
  · rw [mo_T (nI_le (by omega) (by omega))]
    rw [e, List.take_length] at g1
    have : pB (okA u olock bl (ins t)) = true := pB_t ⟨g1, fun k x y hx hy => g2 k x y (by rw [e]; exact (List.getElem?_eq_some_iff.mp hy).1) hx hy⟩
    rw [if_pos this, e, List.take_length]
    exact ⟨_, rfl, rfl⟩
  · have hj2 : j < (ins t).length := by omega
    obtain ⟨s, i, c, hx⟩ : ∃ s i c, (ins t)[j] = (s, i, c) := ⟨(ins t)[j].1, (ins t)[j].2.1, (ins t)[j].2.2, rfl⟩
    have hg : (ins t)[j]? = some (s, i, c) := by rw [List.getElem?_eq_getElem hj2, hx]
    have hmem : (s, i, c) ∈ ins t := List.mem_of_getElem? hg
    have hok := v3 j s i c hg
    obtain ⟨q1, q2⟩ := h2 j s i c hg
    obtain ⟨sl, s160, i2⟩ := slt_lt hT hB hok
    rw [mo_F (nI_ge hj2 (by omega)), show nI t * 2 + nI j = nI (2 * t + j) from ix_c 2 t j, mo_rIn (by omega) (by decide), q1, mo_rIn sl (by decide), hC _ sl]
    have fail : ¬ okA u olock bl (ins t) → ∃ o, some (-1 : Int32) = some o ∧ o = if pB (okA u olock bl (ins t)) = true then nI (sumI u (ins t)) else -1 := by
      intro w
      refine ⟨_, rfl, ?_⟩
      rw [pB_f w]
      rfl
    cases hu2 : u (slt s i) with
    | none =>
      rw [mo_T (show oI none = -1 from rfl)]
      refine fail (fun w => ?_)
      have := (w.1 _ hmem).1
      rw [hu2] at this
      cases this
    | some v =>
      have hvW := hu _ sl v hu2
      rw [show oI (some v) = nI v from rfl, mo_F (nI_nm1 (by omega))]
      have hlast : (nI (slt s i) = (match j with
          | 0 => (-1 : Int32)
          | j + 1 => nI (slt ((ins t).getD j (0, 0, 0)).1 ((ins t).getD j (0, 0, 0)).2.1))) ↔ ∃ (k : Nat) (y : Nat × Nat × Int32), j = k + 1 ∧ (ins t)[k]? = some y ∧ slt y.1 y.2.1 = slt s i := by
        cases j with
        | zero => exact ⟨fun w => absurd w (nI_nm1 (by omega)), fun ⟨k, y, w, _⟩ => by omega⟩
        | succ k =>
          have hk : k < (ins t).length := by omega
          have hgk : (ins t)[k]? = some ((ins t).getD k (0, 0, 0)) := by
            rw [List.getD_eq_getElem?_getD, List.getElem?_eq_getElem hk]
            rfl
          have hokk : okI nT nB ((ins t).getD k (0, 0, 0)).1 ((ins t).getD k (0, 0, 0)).2.1 := v3 k _ _ ((ins t).getD k (0, 0, 0)).2.2 hgk
          have slk : slt ((ins t).getD k (0, 0, 0)).1 ((ins t).getD k (0, 0, 0)).2.1 < 140 := (slt_lt hT hB hokk).1
          show nI (slt s i) = nI _ ↔ _
          rw [nI_inj (by omega) (by omega)]
          constructor
          · intro w
            exact ⟨k, _, rfl, hgk, w.symm⟩
          · rintro ⟨k', y, w1, w2, w3⟩
            have : k' = k := by omega
            subst this
            rw [hgk] at w2
            cases w2
            exact w3.symm
      by_cases ql : ∃ (k : Nat) (y : Nat × Nat × Int32), j = k + 1 ∧ (ins t)[k]? = some y ∧ slt y.1 y.2.1 = slt s i
      · rw [mo_T (hlast.mpr ql)]
        refine fail (fun w => ?_)
        obtain ⟨k, y, w1, w2, w3⟩ := ql
        exact w.2 k y (s, i, c) w2 (by rw [← w1]; exact hg) w3
      · rw [mo_F (fun w => ql (hlast.mp w)), e_clockOf hT hB hok, mo_bs, mo_rIn (by omega) (by decide), q2]
        by_cases qk : lkO olock bl s i = mx 7 c
        · rw [mo_T qk, mo_rIn sl (by decide), hC _ sl, hu2, show oI (some v) = nI v from rfl, nI_add, ← nI_succ]
          refine ih _ hj2 ⟨?_, ?_, ?_⟩
          · have hgd : (ins t).getD j (0, 0, 0) = (s, i, c) := by rw [List.getD_eq_getElem?_getD, hg]; rfl
            show _ = (nI (((ins t).take (j + 1)).map (valI u)).sum, nI (slt ((ins t).getD j (0, 0, 0)).1 ((ins t).getD j (0, 0, 0)).2.1), nI (j + 1))
            rw [sum_take _ _ hj2, hgd, hx]
            have : valI u (s, i, c) = v := by unfold valI; rw [hu2]; rfl
            rw [this]
          · intro x hxm
            rw [(List.take_append_getElem hj2).symm] at hxm
            rcases List.mem_append.mp hxm with w | w
            · exact g1 x w
            · rw [List.mem_singleton.mp w, hx]
              exact ⟨by rw [hu2]; rfl, qk⟩
          · intro k x y hk hx2 hy
            by_cases ek : k + 1 = j
            · rw [ek, hg] at hy
              cases hy
              exact fun w => ql ⟨k, x, ek.symm, hx2, w⟩
            · exact g2 k x y (by omega) hx2 hy
        · rw [mo_F qk]
          refine fail (fun w => qk (w.1 _ hmem).2)
/-- a transaction that may be done: not yet, its inputs all right, enough -/
def okT (u : Nat → Option Nat) (acc : Int64) (ol bl : Nat → Int32) (ins : List (Nat × Nat × Int32)) (outs : List (Int32 × Nat)) (t : Nat) : Prop := tb acc t = false ∧ okA u ol bl ins ∧ sumO outs ≤ sumI u ins
theorem sumO_le {nT nB t : Nat} {ins : Nat → List (Nat × Nat × Int32)} {outs : Nat → List (Int32 × Nat)} (hV : TV nT nB ins outs) (ht : t < nT) : sumO (outs t) ≤ 2000 := by
  obtain ⟨_, v2, _, v4⟩ := hV.2.2 t ht
  have := sum_le (f := Prod.snd) (W := 1000) (outs t) (fun x hx => by
    obtain ⟨k, hk⟩ := List.getElem?_of_mem hx
    exact v4 k x.1 x.2 hk)
  unfold sumO
  omega
theorem sumI_le {nT nB t W : Nat} {u : Nat → Option Nat} {ins : Nat → List (Nat × Nat × Int32)} {outs : Nat → List (Int32 × Nat)} (hV : TV nT nB ins outs) (ht : t < nT) (hW : sumU u 140 ≤ W) : sumI u (ins t) ≤ 2 * W := by
  obtain ⟨v1, _, v3, _⟩ := hV.2.2 t ht
  have h := sum_le (f := valI u) (W := W) (ins t) (fun x hx => by
    obtain ⟨k, hk⟩ := List.getElem?_of_mem hx
    exact valI_le hW hV.1 hV.2.1 (v3 k x.1 x.2.1 x.2.2 hk))
  unfold sumI
  have : (ins t).length * W ≤ 2 * W := Nat.mul_le_mul_right W v1
  omega
theorem e_feeOf {nT nB t W : Nat} {u : Nat → Option Nat} {acc : Int64} {ins : Nat → List (Nat × Nat × Int32)} {outs : Nat → List (Int32 × Nat)} {ic islot ilock oc olock oamt am bl : Nat → Int32} (hX : TX nT ins outs ic islot ilock oc olock oamt) (hV : TV nT nB ins outs) (hC : LC u am) (hW : sumU u 140 ≤ W) (hW2 : W ≤ 100000) (ht : t < nT) : m_le_feeOf acc ic islot am olock bl ilock oc oamt (nI t) = some (if pB (okT u acc olock bl (ins t) (outs t) t) = true then nI (sumI u (ins t) - sumO (outs t)) else -1) := by
  have hT := hV.1
  have so1 := sumO_le hV ht
  have si1 := sumI_le hV ht hW
  have hl := (hV.2.2 t ht).2.1
  unfold m_le_feeOf m_le_hasAccepted
  rw [e_holds' _ (by omega), mo_bs, z_bI, mo_bs, mo_js]
  have fail : ∀ a : Int32, a = -1 → ¬ okT u acc olock bl (ins t) (outs t) t → mo_bd (m_tr_outputSum oc oamt (nI t)) (fun r23 => mo_br (r23 ≤ a) (some (a - r23)) (some (-1))) = some (if pB (okT u acc olock bl (ins t) (outs t) t) = true then nI (sumI u (ins t) - sumO (outs t)) else -1) := by
    rintro a rfl w
    rw [e_outputSum hX ht hT hl, mo_bs, mo_F (fun q => by
      have := Int32.le_iff_toInt_le.mp q
      rw [nI_toInt (by omega), show (-1 : Int32).toInt = -1 by decide] at this
      omega), pB_f w]
    rfl
  cases ha : tb acc t with
  | true =>
    rw [mo_F (by decide)]
    exact fail _ rfl (fun w => by have w1 := w.1; rw [ha] at w1; cases w1)
  | false =>
    rw [mo_T bI_f, e_inputSum (bl := bl) hX hV hC hW hW2 ht, mo_bs]
    by_cases q : okA u olock bl (ins t)
    · rw [if_pos (pB_t q), e_outputSum hX ht hT hl]
      dsimp only
      rw [mo_bs]
      by_cases q2 : sumO (outs t) ≤ sumI u (ins t)
      · rw [mo_T (nI_le q2 (by omega)), pk_sub q2, if_pos (pB_t ⟨ha, q, q2⟩)]
      · rw [mo_F (nI_ge (by omega) (by omega)), pB_f (fun w => q2 w.2.2)]
        rfl
    · rw [if_neg (by rw [pB_f q]; decide)]
      exact fail _ rfl (fun w => q w.2.1)
