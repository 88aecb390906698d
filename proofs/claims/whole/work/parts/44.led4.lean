/-! a transaction is done: accept (the class), take (the reference) -/
def spd : List (Nat × Nat × Int32) → (Nat → Option Nat) → (Nat → Option Nat)
  | [], u => u
  | x :: l, u => spd l (setU u (slt x.1 x.2.1) none)
def putO (t : Nat) : Nat → List (Int32 × Nat) → (Nat → Option Nat) → (Nat → Option Nat)
  | _, [], u => u
  | k, y :: l, u => putO t (k + 1) l (setU u (2 * t + k) (some y.2))
theorem spd_drop {l : List (Nat × Nat × Int32)} {j : Nat} (hj : j < l.length) (u : Nat → Option Nat) : spd (l.drop j) u = spd (l.drop (j + 1)) (setU u (slt l[j].1 l[j].2.1) none) := by
  rw [List.drop_eq_getElem_cons hj]
  rfl
theorem putO_drop {t : Nat} {l : List (Int32 × Nat)} {j : Nat} (hj : j < l.length) (u : Nat → Option Nat) : putO t j (l.drop j) u = putO t (j + 1) (l.drop (j + 1)) (setU u (2 * t + j) (some l[j].2)) := by
  rw [List.drop_eq_getElem_cons hj]
  rfl
theorem LC_set {u : Nat → Option Nat} {am : Nat → Int32} {j : Nat} {x : Option Nat} (h : LC u am) : LC (setU u j x) (upd am j (oI x)) := by
  intro i hi
  by_cases e : i = j
  · subst e
    rw [setU_s, pk_us]
  · rw [setU_n e, pk_un e]
    exact h i hi
theorem e_accept {nT nB t W : Nat} {u : Nat → Option Nat} {acc : Int64} {ins : Nat → List (Nat × Nat × Int32)} {outs : Nat → List (Int32 × Nat)} {ic islot ilock oc olock oamt am bl : Nat → Int32} (hX : TX nT ins outs ic islot ilock oc olock oamt) (hV : TV nT nB ins outs) (hC : LC u am) (hW : sumU u 140 ≤ W) (hW2 : W ≤ 100000) (ht : t < nT) : (okT u acc olock bl (ins t) (outs t) t → ∃ am' : Nat → Int32, m_le_accept acc ic islot am olock bl ilock oc oamt (nI t) = some (nI (sumI u (ins t) - sumO (outs t)), acc ||| bi t, am') ∧ LC (putO t 0 (outs t) (spd (ins t) u)) am') ∧ (¬ okT u acc olock bl (ins t) (outs t) t → m_le_accept acc ic islot am olock bl ilock oc oamt (nI t) = some (-1, acc, am)) := by
  have hV0 := hV
  have si1 := sumI_le hV ht hW
  have hf := e_feeOf (acc := acc) (bl := bl) hX hV hC hW hW2 ht
  obtain ⟨hT, hB, hv⟩ := hV
  obtain ⟨v1, v2, v3, v4⟩ := hv t ht
  obtain ⟨h1, h2, h3, h4⟩ := hX t ht
  constructor
  · intro hok
    obtain ⟨am1, k1, k1'⟩ := lp_ix (step := m_le_accept_L15 ic islot (nI t)) (ins t).length (fun j z => ∃ (u1 : Nat → Option Nat) (g : Nat → Int32), z = (nI j, g) ∧ LC u1 g ∧ spd ((ins t).drop j) u1 = spd (ins t) u) (fun o => LC (spd (ins t) u) o) (by
      intro back j z hj hz ih
      obtain ⟨u1, g, rfl, g1, g2⟩ := hz
      unfold m_le_accept_L15
      dsimp only
      rw [mo_rIn (by omega) (by decide), h1]
      by_cases e : j = (ins t).length
      · rw [mo_T (nI_le (by omega) (by omega))]
        rw [e, List.drop_length] at g2
        refine ⟨_, rfl, ?_⟩
        rw [← g2]
        exact g1
      · have hj2 : j < (ins t).length := by omega
        have hg : (ins t)[j]? = some ((ins t)[j].1, (ins t)[j].2.1, (ins t)[j].2.2) := List.getElem?_eq_getElem hj2
        have sl := (slt_lt hT hB (v3 j _ _ _ hg)).1
        rw [mo_F (nI_ge hj2 (by omega)), show nI t * 2 + nI j = nI (2 * t + j) from ix_c 2 t j, mo_rIn (by omega) (by decide), (h2 j _ _ _ hg).1, mo_wIn sl (by decide), ← nI_succ]
        refine ih _ hj2 ⟨setU u1 (slt (ins t)[j].1 (ins t)[j].2.1) none, _, rfl, LC_set (x := none) g1, ?_⟩
        rw [← spd_drop hj2]
        exact g2) 1000 0 (0, am) (Nat.zero_le _) ⟨u, am, rfl, hC, rfl⟩ (by omega)
    obtain ⟨am2, k2, k2'⟩ := lp_ix (step := m_le_accept_L55 oc oamt (nI t)) (outs t).length (fun j z => ∃ (u1 : Nat → Option Nat) (g : Nat → Int32), z = (nI j, g) ∧ LC u1 g ∧ putO t j ((outs t).drop j) u1 = putO t 0 (outs t) (spd (ins t) u)) (fun o => LC (putO t 0 (outs t) (spd (ins t) u)) o) (by
      intro back j z hj hz ih
      obtain ⟨u1, g, rfl, g1, g2⟩ := hz
      unfold m_le_accept_L55
      dsimp only
      rw [mo_rIn (by omega) (by decide), h3]
      by_cases e : j = (outs t).length
      · rw [mo_T (nI_le (by omega) (by omega))]
        rw [e, List.drop_length] at g2
        refine ⟨_, rfl, ?_⟩
        rw [← g2]
        exact g1
      · have hj2 : j < (outs t).length := by omega
        have h5 := (h4 j (outs t)[j].1 (outs t)[j].2 (List.getElem?_eq_getElem hj2)).2
        rw [mo_F (nI_ge hj2 (by omega)), show nI t * 2 + nI j = nI (2 * t + j) from ix_c 2 t j, mo_rIn (by omega) (by decide), h5, mo_wIn (by omega) (by decide), ← nI_succ]
        refine ih _ hj2 ⟨setU u1 (2 * t + j) (some (outs t)[j].2), _, rfl, LC_set (x := some (outs t)[j].2) g1, ?_⟩
        rw [← putO_drop hj2]
        exact g2) 1000 0 (0, am1) (Nat.zero_le _) ⟨_, am1, rfl, k1', rfl⟩ (by omega)
    refine ⟨am2, ?_, k2'⟩
    unfold m_le_accept
    rw [hf, if_pos (pB_t hok), mo_bs, mo_F (nI_nm1 (by omega)), k1, mo_bs, k2, mo_bs, e_bit, mo_bs]
  · intro hno
    unfold m_le_accept
    rw [hf, pB_f hno, mo_bs]
    exact mo_T rfl
theorem nar1 : vp_nar .boolean 1 = 1 := by decide
theorem nar0 : vp_nar .boolean 0 = 0 := by decide
/-- the reference's rows but for the accepted -/
def LM2 (u : Nat → Option Nat) (amt free coin worth : Nat → Int32) : Prop := (∀ j, j < 80 → free j = bI (u j).isSome ∧ ∀ v, u j = some v → amt j = nI v) ∧ (∀ b, b < 60 → coin b = bI (u (80 + b)).isSome ∧ ∀ v, u (80 + b) = some v → worth b = nI v)
theorem e_take {nT nB t W : Nat} {u : Nat → Option Nat} {acc : Int64} {ins : Nat → List (Nat × Nat × Int32)} {outs : Nat → List (Int32 × Nat)} {inp src idx sec outp lock amt free coin worth macc bl : Nat → Int32} (hX : TM nT ins outs inp src idx sec outp lock amt) (hV : TV nT nB ins outs) (hM : LM u acc amt free coin worth macc) (hW : sumU u 140 ≤ W) (hW2 : W ≤ 100000) (ht : t < nT) (hok : okT u acc lock bl (ins t) (outs t) t) : ∃ macc' free' coin' : Nat → Int32, m_mm_take inp src idx amt worth outp macc free coin (nI t) = some (nI (sumI u (ins t) - sumO (outs t)), macc', free', coin') ∧ LM (putO t 0 (outs t) (spd (ins t) u)) (acc ||| bi t) amt free' coin' worth macc' := by
  have hov := e_over hX hV hM ht (fun x hx => (hok.2.1.1 x hx).1)
  rw [pk_sub hok.2.2] at hov
  obtain ⟨hT, hB, hv⟩ := hV
  obtain ⟨v1, v2, v3, v4⟩ := hv t ht
  obtain ⟨h1, h2, h3, h4⟩ := hX t ht
  obtain ⟨⟨f1, c1⟩, k1, k1'⟩ := lp_ix (step := m_mm_take_L15 inp src idx (nI t)) (ins t).length (fun j z => ∃ (u1 : Nat → Option Nat) (f c : Nat → Int32), z = (nI j, f, c) ∧ LM2 u1 amt f c worth ∧ spd ((ins t).drop j) u1 = spd (ins t) u) (fun o => LM2 (spd (ins t) u) amt o.1 o.2 worth) (by
    intro back j z hj hz ih
    obtain ⟨u1, f, c, rfl, g1, g2⟩ := hz
    unfold m_mm_take_L15
    dsimp only
    rw [mo_rIn (by omega) (by decide), h1]
    by_cases e : j = (ins t).length
    · rw [mo_T (nI_le (by omega) (by omega))]
      rw [e, List.drop_length] at g2
      refine ⟨_, rfl, ?_⟩
      rw [← g2]
      exact g1
    · have hj2 : j < (ins t).length := by omega
      obtain ⟨s, i, d, hx⟩ : ∃ s i c, (ins t)[j] = (s, i, c) := ⟨(ins t)[j].1, (ins t)[j].2.1, (ins t)[j].2.2, rfl⟩
      have hg : (ins t)[j]? = some (s, i, d) := by rw [List.getElem?_eq_getElem hj2, hx]
      obtain ⟨q1, q2, q3⟩ := h2 j s i d hg
      rw [spd_drop hj2, hx] at g2
      rw [mo_F (nI_ge hj2 (by omega)), show (2 : Int32) * nI t + nI j = nI (2 * t + j) from ix_m 2 t j, mo_rIn (by omega) (by decide), q1, mo_js]
      rcases v3 j s i d hg with ⟨o1, o2⟩ | ⟨o1, o2, o3⟩
      · have es : slt s i = 2 * s + i := if_pos (by omega)
        rw [mo_F (show ¬ (100 : Int32) ≤ nI s from nI_ge (b := 100) (by omega) (by decide)), mo_rIn (by omega) (by decide), q2, show (2 : Int32) * nI s + nI i = nI (2 * s + i) from ix_m 2 s i, mo_wZn (by omega) (by decide), nar0, ← nI_succ]
        refine ih _ hj2 ⟨setU u1 (slt s i) none, _, _, rfl, ⟨fun m hm => ?_, fun m hm => ?_⟩, g2⟩
        · rw [es]
          by_cases em : m = 2 * s + i
          · rw [em, setU_s, pk_us]
            exact ⟨rfl, fun v hv => by cases hv⟩
          · rw [setU_n em, pk_un em]
            exact g1.1 m hm
        · rw [es, setU_n (by omega)]
          exact g1.2 m hm
      · have es : slt s i = 80 + (s - 100) := if_neg (by omega)
        rw [mo_T (show (100 : Int32) ≤ nI s from nI_le (a := 100) o1 (by omega)), s100 o1, mo_wZn (by omega) (by decide), nar0, ← nI_succ]
        refine ih _ hj2 ⟨setU u1 (slt s i) none, _, _, rfl, ⟨fun m hm => ?_, fun m hm => ?_⟩, g2⟩
        · rw [es, setU_n (by omega)]
          exact g1.1 m hm
        · rw [es]
          by_cases em : m = s - 100
          · rw [em, setU_s, pk_us]
            exact ⟨rfl, fun v hv => by cases hv⟩
          · rw [setU_n (by omega), pk_un em]
            exact g1.2 m hm) 1000 0 (0, free, coin) (Nat.zero_le _) ⟨u, free, coin, rfl, ⟨hM.1, hM.2.1⟩, rfl⟩ (by omega)
  obtain ⟨f2, k2, k2'⟩ := lp_ix (step := m_mm_take_L87 outp (nI t)) (outs t).length (fun j z => ∃ (u1 : Nat → Option Nat) (f : Nat → Int32), z = (nI j, f) ∧ LM2 u1 amt f c1 worth ∧ putO t j ((outs t).drop j) u1 = putO t 0 (outs t) (spd (ins t) u)) (fun o => LM2 (putO t 0 (outs t) (spd (ins t) u)) amt o c1 worth) (by
    intro back j z hj hz ih
    obtain ⟨u1, f, rfl, g1, g2⟩ := hz
    unfold m_mm_take_L87
    dsimp only
    rw [mo_rIn (by omega) (by decide), h3]
    by_cases e : j = (outs t).length
    · rw [mo_T (nI_le (by omega) (by omega))]
      rw [e, List.drop_length] at g2
      refine ⟨_, rfl, ?_⟩
      rw [← g2]
      exact g1
    · have hj2 : j < (outs t).length := by omega
      have h5 := (h4 j (outs t)[j].1 (outs t)[j].2 (List.getElem?_eq_getElem hj2)).2
      rw [mo_F (nI_ge hj2 (by omega)), show (2 : Int32) * nI t + nI j = nI (2 * t + j) from ix_m 2 t j, mo_wZn (by omega) (by decide), nar1, ← nI_succ]
      refine ih _ hj2 ⟨setU u1 (2 * t + j) (some (outs t)[j].2), _, rfl, ⟨fun m hm => ?_, fun m hm => ?_⟩, ?_⟩
      · by_cases em : m = 2 * t + j
        · rw [em, setU_s, pk_us]
          exact ⟨rfl, fun v hv => by cases hv; exact h5⟩
        · rw [setU_n em, pk_un em]
          exact g1.1 m hm
      · rw [setU_n (by omega)]
        exact g1.2 m hm
      · rw [← putO_drop hj2]
        exact g2) 1000 0 (0, f1) (Nat.zero_le _) ⟨_, f1, rfl, k1', rfl⟩ (by omega)
  refine ⟨upd macc t 1, f2, c1, ?_, k2'.1, k2'.2, fun m hm => ?_⟩
  · unfold m_mm_take
    rw [hov, mo_bs, mo_wZn (by omega) (by decide), nar1, k1, mo_bs]
    dsimp only
    rw [k2, mo_bs]
  · rw [tb_or, tb_bi (by omega)]
    by_cases em : m = t
    · rw [em, pk_us, decide_eq_true rfl, Bool.or_true]
      rfl
    · rw [pk_un em, decide_eq_false em, Bool.or_false]
      exact hM.2.2 m hm
