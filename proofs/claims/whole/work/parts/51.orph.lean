/-! the orphans -/
theorem e_nested {n b : Nat} {P : Nat → List Nat} {fc fe : Nat → Int32} {mp : Nat → Int64} (h : BP 4 n P fc fe) (hn : n ≤ 60) (hb : b < n) : m_mm_nested fc fe mp (nI b) = some (bI (pB (∃ p ∈ P b, ∃ q ∈ P b, tb (mp p) q = true))) := by
  obtain ⟨h1, h2, h3⟩ := h b hb
  have inner : ∀ k, (hk : k < (P b).length) → ∀ c : Bool, mo_lp (m_mm_nested_L17 fc fe mp (nI b) (nI k)) 1000 (bI c, 0) = some (bI (c || pB (∃ q ∈ P b, tb (mp (P b)[k]) q = true))) := by
    intro k hk c
    have hpk := h3 k _ (List.getElem?_eq_getElem hk)
    refine so_eq (lp_ix (P b).length (fun j z => z = (bI (c || pB (∃ q ∈ (P b).take j, tb (mp (P b)[k]) q = true)), nI j)) (fun o => o = bI (c || pB (∃ q ∈ P b, tb (mp (P b)[k]) q = true))) ?_ 1000 0 (bI c, 0) (Nat.zero_le _) (by rw [pB_f (by simp), Bool.or_false]; rfl) (by omega))
    intro back j z hj hz ih
    subst hz
    unfold m_mm_nested_L17
    dsimp only
    rw [mo_rIn (by omega) (by decide), h1]
    by_cases e : j = (P b).length
    · rw [mo_T (nI_le (by omega) (by omega)), e, List.take_length]
      exact ⟨_, rfl, rfl⟩
    · have hj2 : j < (P b).length := by omega
      have hpj := h3 j _ (List.getElem?_eq_getElem hj2)
      have hi : (∃ q ∈ (P b).take (j + 1), tb (mp (P b)[k]) q = true) ↔ ((∃ q ∈ (P b).take j, tb (mp (P b)[k]) q = true) ∨ tb (mp (P b)[k]) (P b)[j] = true) := by
        rw [(List.take_append_getElem hj2).symm]
        constructor
        · rintro ⟨q, q1, q2⟩
          rcases List.mem_append.mp q1 with w | w
          · exact Or.inl ⟨q, w, q2⟩
          · rw [List.mem_singleton.mp w] at q2; exact Or.inr q2
        · rintro (⟨q, q1, q2⟩ | q)
          · exact ⟨q, List.mem_append_left _ q1, q2⟩
          · exact ⟨_, List.mem_append_right _ List.mem_cons_self, q⟩
      rw [mo_F (nI_ge hj2 (by omega)), mo_js, mo_js]
      cases t0 : (c || pB (∃ q ∈ (P b).take j, tb (mp (P b)[k]) q = true)) with
      | true =>
        rw [mo_F (by decide), ← nI_succ]
        refine ih _ hj2 ?_
        have : (c || pB (∃ q ∈ (P b).take (j + 1), tb (mp (P b)[k]) q = true)) = true := by
          rw [Bool.or_eq_true] at t0 ⊢
          exact t0.imp id (fun w => pB_t (hi.mpr (Or.inl (pB_of w))))
        rw [this]
        rfl
      | false =>
        rw [Bool.or_eq_false_iff] at t0
        rw [mo_T bI_f, show (4 : Int32) * nI b + nI k = nI (4 * b + k) from ix_m 4 b k, show (4 : Int32) * nI b + nI j = nI (4 * b + j) from ix_m 4 b j, mo_rIn (by omega) (by decide), hpk.1, mo_rLn (by omega) (by decide), mo_rIn (by omega) (by decide), hpj.1, e_in' _ (by omega), mo_bs]
        cases t : tb (mp (P b)[k]) (P b)[j] with
        | false =>
          rw [mo_T bI_f, ← nI_succ]
          refine ih _ hj2 ?_
          rw [t0.1, pB_f (fun w => (hi.mp w).elim (pB_nof t0.2) (fun w => by rw [t] at w; cases w))]
          rfl
        | true =>
          rw [mo_F (by decide), ← nI_succ]
          refine ih _ hj2 ?_
          rw [pB_t (hi.mpr (Or.inr t)), Bool.or_true]
          rfl
  have key : mo_lp (m_mm_nested_L4 fc fe mp (nI b)) 1000 (0, 0) = some (bI (pB (∃ p ∈ P b, ∃ q ∈ P b, tb (mp p) q = true))) := by
    refine so_eq (lp_ix (P b).length (fun j z => z = (bI (pB (∃ p ∈ (P b).take j, ∃ q ∈ P b, tb (mp p) q = true)), nI j)) (fun o => o = bI (pB (∃ p ∈ P b, ∃ q ∈ P b, tb (mp p) q = true))) ?_ 1000 0 (0, 0) (Nat.zero_le _) (by rw [pB_f (by simp)]; rfl) (by omega))
    intro back j z hj hz ih
    subst hz
    unfold m_mm_nested_L4
    dsimp only
    rw [mo_rIn (by omega) (by decide), h1]
    by_cases e : j = (P b).length
    · rw [mo_T (nI_le (by omega) (by omega)), e, List.take_length]
      exact ⟨_, rfl, rfl⟩
    · have hj2 : j < (P b).length := by omega
      rw [mo_F (nI_ge hj2 (by omega)), inner j hj2, mo_bs, ← nI_succ]
      refine ih _ hj2 ?_
      have hi : (∃ p ∈ (P b).take (j + 1), ∃ q ∈ P b, tb (mp p) q = true) ↔ ((∃ p ∈ (P b).take j, ∃ q ∈ P b, tb (mp p) q = true) ∨ ∃ q ∈ P b, tb (mp (P b)[j]) q = true) := by
        rw [(List.take_append_getElem hj2).symm]
        constructor
        · rintro ⟨q, q1, q2⟩
          rcases List.mem_append.mp q1 with w | w
          · exact Or.inl ⟨q, w, q2⟩
          · rw [List.mem_singleton.mp w] at q2; exact Or.inr q2
        · rintro (⟨q, q1, q2⟩ | q)
          · exact ⟨q, List.mem_append_left _ q1, q2⟩
          · exact ⟨_, List.mem_append_right _ List.mem_cons_self, q⟩
      have eb : (pB (∃ p ∈ (P b).take j, ∃ q ∈ P b, tb (mp p) q = true) || pB (∃ q ∈ P b, tb (mp (P b)[j]) q = true)) = pB (∃ p ∈ (P b).take (j + 1), ∃ q ∈ P b, tb (mp p) q = true) := by
        by_cases w1 : ∃ p ∈ (P b).take j, ∃ q ∈ P b, tb (mp p) q = true
        · rw [pB_t w1, pB_t (hi.mpr (Or.inl w1)), Bool.true_or]
        · by_cases w2 : ∃ q ∈ P b, tb (mp (P b)[j]) q = true
          · rw [pB_t w2, pB_t (hi.mpr (Or.inr w2)), Bool.or_true]
          · rw [pB_f w1, pB_f w2, pB_f (fun w => (hi.mp w).elim w1 w2)]
            rfl
      rw [eb]
  unfold m_mm_nested
  rw [key, mo_bs, z_bI]
/-- where the orphan with the least number waits whose parents are there -/
noncomputable def rdy (P : Nat → List Nat) (M : Int64) (O : List Nat) : Nat → Option Nat
  | 0 => none
  | j + 1 => if pB (∀ p ∈ P (O.getD j 0), tb M p = true) = true then (match rdy P M O j with
    | none => some j
    | some r => if O.getD j 0 < O.getD r 0 then some j else some r) else rdy P M O j
theorem rdy_lt {P : Nat → List Nat} {M : Int64} {O : List Nat} : ∀ {n r : Nat}, rdy P M O n = some r → r < n ∧ ∀ p ∈ P (O.getD r 0), tb M p = true := by
  intro n
  induction n with
  | zero => intro r h; cases h
  | succ n ih =>
    intro r h
    unfold rdy at h
    by_cases q : pB (∀ p ∈ P (O.getD n 0), tb M p = true) = true
    · rw [if_pos q] at h
      cases hr : rdy P M O n with
      | none => rw [hr] at h; cases h; exact ⟨by omega, pB_of q⟩
      | some s =>
        rw [hr] at h
        dsimp only at h
        by_cases w : O.getD n 0 < O.getD s 0
        · rw [if_pos w] at h; cases h; exact ⟨by omega, pB_of q⟩
        · rw [if_neg w] at h; cases h
          obtain ⟨a, b⟩ := ih hr
          exact ⟨by omega, b⟩
    · rw [if_neg q] at h
      obtain ⟨a, b⟩ := ih h
      exact ⟨by omega, b⟩
theorem rdy_s {P : Nat → List Nat} {M : Int64} {O : List Nat} (j : Nat) : rdy P M O (j + 1) = if pB (∀ p ∈ P (O.getD j 0), tb M p = true) = true then (match rdy P M O j with
    | none => some j
    | some r => if O.getD j 0 < O.getD r 0 then some j else some r) else rdy P M O j := rfl
theorem getD_get {O : List Nat} {j : Nat} (h : j < O.length) : O.getD j 0 = O[j] := by rw [List.getD_eq_getElem?_getD, List.getElem?_eq_getElem h]; rfl
theorem e_ready {n : Nat} {P : Nat → List Nat} {fc fe f : Nat → Int32} {M : Int64} {O : List Nat} (h : BP 4 n P fc fe) (hn : n ≤ 60) (hO : ∀ b ∈ O, b < n) (hl : O.length ≤ 4) (hf : hL f O) : m_bm_readyOrphan (nI O.length) f M fc fe = some (oI (rdy P M O O.length)) := by
  have key : mo_lp (m_bm_readyOrphan_L4 (nI O.length) f M fc fe) 1000 (-1, 0) = some (oI (rdy P M O O.length)) := by
    refine so_eq (lp_ix O.length (fun j z => z = (oI (rdy P M O j), nI j)) (fun o => o = oI (rdy P M O O.length)) ?_ 1000 0 (-1, 0) (Nat.zero_le _) rfl (by omega))
    intro back j z hj hz ih
    subst hz
    unfold m_bm_readyOrphan_L4
    dsimp only
    by_cases e : j = O.length
    · rw [mo_T (nI_le (by omega) (by omega)), e]
      exact ⟨_, rfl, rfl⟩
    · have hj2 : j < O.length := by omega
      have hb := hO _ (List.getElem_mem hj2)
      rw [mo_F (nI_ge hj2 (by omega)), e_nuAt hf hl (by decide) hj2, mo_bs, e_hasParentsOf h hn hb, mo_bs, mo_js]
      have hs := rdy_s (P := P) (M := M) (O := O) j
      rw [getD_get hj2] at hs
      cases q : pB (∀ p ∈ P O[j], tb M p = true) with
      | false =>
        rw [mo_T bI_f, ← nI_succ]
        rw [if_neg (by rw [q]; decide)] at hs
        exact ih _ hj2 (by rw [hs])
      | true =>
        rw [mo_F (by decide), mo_js]
        rw [if_pos q] at hs
        cases hr : rdy P M O j with
        | none =>
          rw [mo_T (show oI none = -1 from rfl), ← nI_succ]
          rw [hr] at hs
          exact ih _ hj2 (by rw [hs]; rfl)
        | some r =>
          have hr1 := (rdy_lt hr).1
          have hr2 : r < O.length := by omega
          rw [hr] at hs
          dsimp only at hs
          rw [getD_get hr2] at hs
          have hb2 := hO _ (List.getElem_mem hr2)
          rw [show oI (some r) = nI r from rfl, mo_F (nI_nm1 (by omega)), e_nuAt hf hl (by decide) hr2, mo_bs]
          by_cases w : O[j] < O[r]
          · rw [mo_F (nI_ge w (by omega)), ← nI_succ]
            rw [if_pos w] at hs
            exact ih _ hj2 (by rw [hs]; rfl)
          · rw [mo_T (nI_le (by omega) (by omega)), ← nI_succ]
            rw [if_neg w] at hs
            exact ih _ hj2 (by rw [hs]; rfl)
  unfold m_bm_readyOrphan
  rw [key, mo_bs]
theorem e_ripe {n : Nat} {P : Nat → List Nat} {fc fe f : Nat → Int32} {M : Int64} {O : List Nat} (h : BP 4 n P fc fe) (hn : n ≤ 60) (hO : ∀ b ∈ O, b < n) (hl : O.length ≤ 4) (hf : hL f O) : m_mm_ripe M (nI O.length) f fc fe = some (oI (rdy P M O O.length)) := by
  have key : mo_lp (m_mm_ripe_L4 M (nI O.length) f fc fe) 1000 (-1, 0) = some (oI (rdy P M O O.length)) := by
    refine so_eq (lp_ix O.length (fun j z => z = (oI (rdy P M O j), nI j)) (fun o => o = oI (rdy P M O O.length)) ?_ 1000 0 (-1, 0) (Nat.zero_le _) rfl (by omega))
    intro back j z hj hz ih
    subst hz
    unfold m_mm_ripe_L4
    dsimp only
    by_cases e : j = O.length
    · rw [mo_T (nI_le (by omega) (by omega)), e]
      exact ⟨_, rfl, rfl⟩
    · have hj2 : j < O.length := by omega
      have hb := hO _ (List.getElem_mem hj2)
      have hfj := hf j _ (List.getElem?_eq_getElem hj2)
      rw [mo_F (nI_ge hj2 (by omega)), mo_rIn (by omega) (by decide), hfj, e_complete h hn hb, mo_bs, mo_js, mo_js]
      have hs := rdy_s (P := P) (M := M) (O := O) j
      rw [getD_get hj2] at hs
      have no : rdy P M O (j + 1) = rdy P M O j → ∃ o, mo_jn (fun s59_0 => back (s59_0, nI j + 1)) (fun j59 => mo_br ((0 : Int32) = 0) (j59 (oI (rdy P M O j))) (j59 (nI j))) = some o ∧ o = oI (rdy P M O O.length) := by
        intro q
        rw [mo_js, mo_T rfl, ← nI_succ]
        exact ih _ hj2 (by rw [q])
      have yes : rdy P M O (j + 1) = some j → ∃ o, mo_jn (fun s59_0 => back (s59_0, nI j + 1)) (fun j59 => mo_br ((1 : Int32) = 0) (j59 (oI (rdy P M O j))) (j59 (nI j))) = some o ∧ o = oI (rdy P M O O.length) := by
        intro q
        rw [mo_js, mo_F (by decide), ← nI_succ]
        exact ih _ hj2 (by rw [q]; rfl)
      cases q : pB (∀ p ∈ P O[j], tb M p = true) with
      | false =>
        rw [mo_T bI_f]
        rw [if_neg (by rw [q]; decide)] at hs
        exact no hs
      | true =>
        rw [mo_F (by decide), mo_js]
        rw [if_pos q] at hs
        cases hr : rdy P M O j with
        | none =>
          rw [mo_T (show oI none < 0 by decide)]
          rw [hr] at hs yes
          exact yes hs
        | some r =>
          have hr1 := (rdy_lt hr).1
          have hr2 : r < O.length := by omega
          rw [hr] at hs yes no
          dsimp only at hs
          rw [getD_get hr2] at hs
          have hb2 := hO _ (List.getElem_mem hr2)
          have hfr := hf r _ (List.getElem?_eq_getElem hr2)
          rw [show oI (some r) = nI r from rfl] at yes no ⊢
          rw [mo_F (nI_pos (by omega)), mo_rIn (by omega) (by decide), mo_rIn (by omega) (by decide), hfj, hfr]
          by_cases w : O[j] < O[r]
          · rw [mo_F (nI_ge w (by omega))]
            rw [if_pos w] at hs
            exact yes hs
          · rw [mo_T (nI_le (by omega) (by omega))]
            rw [if_neg w] at hs
            exact no hs
  unfold m_mm_ripe
  rw [key, mo_bs]
theorem sh_L12 {f : Nat → Int32} {m k : Nat} (hm : m < 4) (hk : k ≤ m) : ∃ g : Nat → Int32, mo_lp (m_mm_removeOrphan_L12 (nI (m + 1))) 1000 (nI k, f) = some g ∧ (∀ i, i < k → g i = f i) ∧ ∀ i, k ≤ i → i < m → g i = f (i + 1) := by
  have em : nI (m + 1) - 1 = nI m := pk_sub (b := 1) (by omega)
  obtain ⟨o, h1, h2, h3⟩ := lp_ix (step := m_mm_removeOrphan_L12 (nI (m + 1))) (m - k) (fun j z => ∃ g : Nat → Int32, z = (nI (k + j), g) ∧ (∀ i, i < k → g i = f i) ∧ (∀ i, k ≤ i → i < k + j → g i = f (i + 1)) ∧ ∀ i, k + j ≤ i → g i = f i) (fun o => (∀ i, i < k → o i = f i) ∧ ∀ i, k ≤ i → i < m → o i = f (i + 1)) (by
    intro back j z hj hz ih
    obtain ⟨g, rfl, g1, g2, g3⟩ := hz
    unfold m_mm_removeOrphan_L12
    dsimp only
    rw [em]
    by_cases e : j = m - k
    · rw [mo_T (nI_le (by omega) (by omega))]
      exact ⟨_, rfl, g1, fun i h1 h2 => g2 i h1 (by omega)⟩
    · rw [mo_F (nI_ge (by omega) (by omega)), ← nI_succ, mo_rIn (by omega) (by omega), mo_wIn (by omega) (by omega), g3 _ (by omega)]
      refine ih _ (by omega) ⟨_, rfl, fun i hi => ?_, fun i h1 h2 => ?_, fun i hi => ?_⟩
      · rw [pk_un (by omega)]; exact g1 i hi
      · by_cases ei : i = k + j
        · rw [ei, pk_us]
        · rw [pk_un ei]; exact g2 i h1 (by omega)
      · rw [pk_un (by omega)]; exact g3 i (by omega)) 1000 0 (nI k, f) (Nat.zero_le _) ⟨f, rfl, fun _ _ => rfl, fun i h1 h2 => by omega, fun _ _ => rfl⟩ (by omega)
  exact ⟨o, h1, h2, h3⟩
theorem e_removeOrphan {f : Nat → Int32} {A r : List Nat} {t : Nat} (h : hL f (A ++ t :: r)) (hn : (A ++ t :: r).length ≤ 4) : ∃ g : Nat → Int32, m_mm_removeOrphan (nI (A ++ t :: r).length) f (nI A.length) = some (nI (A ++ r).length, g) ∧ hL g (A ++ r) := by
  have hlen : (A ++ t :: r).length = A.length + r.length + 1 := by rw [List.length_append, List.length_cons]; omega
  have hlen2 : (A ++ r).length = A.length + r.length := List.length_append
  rw [hlen] at hn
  obtain ⟨g, E, g1, g2⟩ := sh_L12 (f := f) (m := A.length + r.length) (k := A.length) (by omega) (by omega)
  refine ⟨g, ?_, hL_rem h g1 g2⟩
  unfold m_mm_removeOrphan
  rw [hlen, hlen2, E, mo_bs, show nI (A.length + r.length + 1) - 1 = nI (A.length + r.length) from pk_sub (b := 1) (by omega)]
