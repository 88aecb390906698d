/-! a block is made of a plan, on both sides -/
def hv1 (x n : Int32) (t : Nat) : Int32 := mx x (n + nI t) &&& 2147483647
def wh (x n : Int32) : Nat → Nat → Int32
  | 0, t => hv1 x n t
  | f + 1, t => if hv1 x n t < 536870912 then hv1 x n t else wh x n f (t + 1)
theorem e_worked (x n : Int32) : m_bl_workedHash x n = some (wh x n 39 0) := by
  have key : ∀ f t g (v : Int32), t + f = 39 → ¬ v < 536870912 → f + 2 < g → mo_lp (m_bl_workedHash_L5 x n) g (v, nI t) = some (wh x n f t) := by
    have stop : ∀ t g (v : Int32), 1 ≤ g → (v < 536870912 ∨ 40 ≤ t) → t ≤ 40 → mo_lp (m_bl_workedHash_L5 x n) g (v, nI t) = some v := by
      intro t g v hg hc ht
      obtain ⟨g, rfl⟩ : ∃ a, g = a + 1 := ⟨g - 1, by omega⟩
      show m_bl_workedHash_L5 x n (mo_lp (m_bl_workedHash_L5 x n) g) (v, nI t) = _
      unfold m_bl_workedHash_L5
      dsimp only
      by_cases c : 40 ≤ t
      · rw [mo_T (show (40 : Int32) ≤ nI t from nI_le (a := 40) c (by omega))]
      · rw [mo_F (show ¬ (40 : Int32) ≤ nI t from nI_ge (b := 40) (by omega) (by decide)), mo_T (hc.elim id (fun w => absurd w c))]
    intro f
    induction f with
    | zero =>
      intro t g v ht hv hg
      obtain ⟨g, rfl⟩ : ∃ a, g = a + 1 := ⟨g - 1, by omega⟩
      show m_bl_workedHash_L5 x n (mo_lp (m_bl_workedHash_L5 x n) g) (v, nI t) = _
      have st := stop (t + 1) g (hv1 x n t) (by omega) (Or.inr (by omega)) (by omega)
      generalize mo_lp (m_bl_workedHash_L5 x n) g = back at st ⊢
      unfold m_bl_workedHash_L5
      dsimp only
      rw [mo_F (show ¬ (40 : Int32) ≤ nI t from nI_ge (b := 40) (by omega) (by decide)), mo_F hv, e_mix, mo_bs, ← nI_succ]
      exact st
    | succ f ih =>
      intro t g v ht hv hg
      obtain ⟨g, rfl⟩ : ∃ a, g = a + 1 := ⟨g - 1, by omega⟩
      show m_bl_workedHash_L5 x n (mo_lp (m_bl_workedHash_L5 x n) g) (v, nI t) = _
      have st := fun hc => stop (t + 1) g (hv1 x n t) (by omega) hc (by omega)
      have ih := fun hc => ih (t + 1) g (hv1 x n t) (by omega) hc (by omega)
      generalize mo_lp (m_bl_workedHash_L5 x n) g = back at st ih ⊢
      unfold m_bl_workedHash_L5
      dsimp only
      rw [mo_F (show ¬ (40 : Int32) ≤ nI t from nI_ge (b := 40) (by omega) (by decide)), mo_F hv, e_mix, mo_bs, ← nI_succ]
      show back (hv1 x n t, nI (t + 1)) = some (if hv1 x n t < 536870912 then hv1 x n t else wh x n f (t + 1))
      by_cases c : hv1 x n t < 536870912
      · rw [if_pos c]; exact st (Or.inl c)
      · rw [if_neg c]; exact ih c
  unfold m_bl_workedHash
  have k0 : mo_lp (m_bl_workedHash_L5 x n) 1000 (536870912, 0) = some (wh x n 39 0) := key 39 0 1000 536870912 rfl (by decide) (by decide)
  rw [k0, mo_bs]
def xP (h : Nat → Int32) (x : Int32) (p : Nat) : Int32 := mx x (h p)
theorem e_buildL13 {nB : Nat} {pp : List Nat} {pph h fpar : Nat → Int32} (hB : nB < 60) (h1 : pp.length ≤ 4) (h2 : ∀ q ∈ pp, q < nB) (h3 : hL pph pp) : ∃ fpar' : Nat → Int32, mo_lp (m_bl_build_L13 (nI nB) (nI pp.length) pph h) 1000 (13, 0, fpar) = some (pp.foldl (xP h) 13, fpar') ∧ (∀ j, j < 4 * nB → fpar' j = fpar j) ∧ ∀ j q, pp[j]? = some q → fpar' (4 * nB + j) = nI q := by
  obtain ⟨o, e1, fpar', rfl, e2, e3⟩ := lp_ix (step := m_bl_build_L13 (nI nB) (nI pp.length) pph h) pp.length (fun j z => ∃ g : Nat → Int32, z = ((pp.take j).foldl (xP h) 13, nI j, g) ∧ (∀ i, i < 4 * nB → g i = fpar i) ∧ ∀ i q, i < j → pp[i]? = some q → g (4 * nB + i) = nI q) (fun o => ∃ g : Nat → Int32, o = (pp.foldl (xP h) 13, g) ∧ (∀ i, i < 4 * nB → g i = fpar i) ∧ ∀ i q, pp[i]? = some q → g (4 * nB + i) = nI q) (by
    intro back j z hj hz ih
    obtain ⟨g, rfl, a1, a2⟩ := hz
    unfold m_bl_build_L13
    dsimp only
    by_cases e : j = pp.length
    · rw [mo_T (nI_le (by omega) (by omega)), e, List.take_length]
      exact ⟨_, rfl, g, rfl, a1, fun i q hi => a2 i q (by have := (List.getElem?_eq_some_iff.mp hi).1; omega) hi⟩
    · have hj2 : j < pp.length := by omega
      have hq := h2 _ (List.getElem_mem hj2)
      rw [mo_F (nI_ge hj2 (by omega)), e_nuAt h3 h1 (by decide) hj2, mo_bs, show nI nB * 4 + nI j = nI (4 * nB + j) from ix_c 4 nB j, mo_wIn (by omega) (by decide), mo_rIn (by omega) (by decide), e_mix, mo_bs, ← nI_succ]
      refine ih _ hj2 ⟨_, by rw [fold_take _ _ _ hj2]; rfl, fun i hi => ?_, fun i q hi hq2 => ?_⟩
      · rw [pk_un (by omega)]; exact a1 i hi
      · by_cases ei : i = j
        · subst ei
          rw [List.getElem?_eq_getElem hj2] at hq2
          rw [pk_us, Option.some.inj hq2]
        · rw [pk_un (by omega)]; exact a2 i q (by omega) hq2) 1000 0 (13, 0, fpar) (Nat.zero_le _) ⟨fpar, rfl, fun _ _ => rfl, fun i q hi => by omega⟩ (by omega)
  exact ⟨fpar', e1, e2, e3⟩
theorem e_buildL73 {nB nT : Nat} {pi : List Nat} {pih ids fi : Nat → Int32} (x : Int32) (hB : nB < 60) (hT : nT ≤ 40) (h1 : pi.length ≤ 3) (h2 : ∀ q ∈ pi, q < nT) (h3 : hL pih pi) : ∃ fi' : Nat → Int32, mo_lp (m_bl_build_L73 (nI nB) (nI pi.length) pih ids) 1000 (x, 0, fi) = some (pi.foldl (xP ids) x, fi') ∧ (∀ j, j < 3 * nB → fi' j = fi j) ∧ ∀ j q, pi[j]? = some q → fi' (3 * nB + j) = nI q := by
  obtain ⟨o, e1, fi', rfl, e2, e3⟩ := lp_ix (step := m_bl_build_L73 (nI nB) (nI pi.length) pih ids) pi.length (fun j z => ∃ g : Nat → Int32, z = ((pi.take j).foldl (xP ids) x, nI j, g) ∧ (∀ i, i < 3 * nB → g i = fi i) ∧ ∀ i q, i < j → pi[i]? = some q → g (3 * nB + i) = nI q) (fun o => ∃ g : Nat → Int32, o = (pi.foldl (xP ids) x, g) ∧ (∀ i, i < 3 * nB → g i = fi i) ∧ ∀ i q, pi[i]? = some q → g (3 * nB + i) = nI q) (by
    intro back j z hj hz ih
    obtain ⟨g, rfl, a1, a2⟩ := hz
    unfold m_bl_build_L73
    dsimp only
    by_cases e : j = pi.length
    · rw [mo_T (nI_le (by omega) (by omega)), e, List.take_length]
      exact ⟨_, rfl, g, rfl, a1, fun i q hi => a2 i q (by have := (List.getElem?_eq_some_iff.mp hi).1; omega) hi⟩
    · have hj2 : j < pi.length := by omega
      have hq := h2 _ (List.getElem_mem hj2)
      rw [mo_F (nI_ge hj2 (by omega)), e_nuAt h3 h1 (by decide) hj2, mo_bs, show nI nB * 3 + nI j = nI (3 * nB + j) from ix_c 3 nB j, mo_wIn (by omega) (by decide), mo_rIn (by omega) (by decide), e_mix, mo_bs, ← nI_succ]
      refine ih _ hj2 ⟨_, by rw [fold_take _ _ _ hj2]; rfl, fun i hi => ?_, fun i q hi hq2 => ?_⟩
      · rw [pk_un (by omega)]; exact a1 i hi
      · by_cases ei : i = j
        · subst ei
          rw [List.getElem?_eq_getElem hj2] at hq2
          rw [pk_us, Option.some.inj hq2]
        · rw [pk_un (by omega)]; exact a2 i q (by omega) hq2) 1000 0 (x, 0, fi) (Nat.zero_le _) ⟨fi, rfl, fun _ _ => rfl, fun i q hi => by omega⟩ (by omega)
  exact ⟨fi', e1, e2, e3⟩
/-- the hash of a block with these parents, transactions and lock -/
def hvP (h ids : Nat → Int32) (pp pi : List Nat) (lk n : Int32) : Int32 := wh (mx (pi.foldl (xP ids) (pp.foldl (xP h) 13)) lk) n 39 0
theorem e_cbuild {nB nT : Nat} {pp pi : List Nat} {pph pih h ids fpar fi fpc fic bl : Nat → Int32} {lk n : Int32} (hB : nB < 60) (hT : nT ≤ 40) (h1 : pp.length ≤ 4) (h2 : ∀ q ∈ pp, q < nB) (h3 : hL pph pp) (h4 : pi.length ≤ 3) (h5 : ∀ q ∈ pi, q < nT) (h6 : hL pih pi) : ∃ fpar' fi' : Nat → Int32, m_bl_build (nI nB) (nI pp.length) pph fpar h (nI pi.length) pih fi ids fpc fic bl lk n = some (nI nB, nI (nB + 1), fpar', upd h nB (hvP h ids pp pi lk n), fi', upd fpc nB (nI pp.length), upd fic nB (nI pi.length), upd bl nB lk) ∧ (∀ j, j < 4 * nB → fpar' j = fpar j) ∧ (∀ j q, pp[j]? = some q → fpar' (4 * nB + j) = nI q) ∧ (∀ j, j < 3 * nB → fi' j = fi j) ∧ ∀ j q, pi[j]? = some q → fi' (3 * nB + j) = nI q := by
  obtain ⟨fpar', E1, E2, E3⟩ := e_buildL13 (h := h) (fpar := fpar) hB h1 h2 h3
  obtain ⟨fi', E4, E5, E6⟩ := e_buildL73 (ids := ids) (fi := fi) (pp.foldl (xP h) 13) hB hT h4 h5 h6
  refine ⟨fpar', fi', ?_, E2, E3, E5, E6⟩
  unfold m_bl_build
  rw [E1, mo_bs]
  dsimp only
  rw [E4, mo_bs]
  dsimp only
  rw [mo_wIn hB (by decide), mo_wIn hB (by decide), mo_wIn hB (by decide), e_mix, mo_bs, e_worked, mo_bs, mo_wIn hB (by decide), ← nI_succ]
  rfl
theorem e_mbL45 {nB F : Nat} {mpar : Nat → Int32} (hB : nB < 60) (hF : 60 ≤ F) (hF2 : F < 62) : ∃ g : Nat → Int32, mo_lp (m_mm_build_L45 (nI nB) (nI F)) 1000 (0, mpar) = some g ∧ (∀ j, j < 4 * nB → g j = mpar j) ∧ (∀ j, j < 4 → g (4 * nB + j) = mpar (4 * F + j)) ∧ ∀ j, 240 ≤ j → g j = mpar j := by
  obtain ⟨o, e1, e2, e3, e4⟩ := lp_ix (step := m_mm_build_L45 (nI nB) (nI F)) 4 (fun j z => ∃ g : Nat → Int32, z = (nI j, g) ∧ (∀ i, i < 4 * nB → g i = mpar i) ∧ (∀ i, i < j → g (4 * nB + i) = mpar (4 * F + i)) ∧ ∀ i, 240 ≤ i → g i = mpar i) (fun g => (∀ i, i < 4 * nB → g i = mpar i) ∧ (∀ i, i < 4 → g (4 * nB + i) = mpar (4 * F + i)) ∧ ∀ i, 240 ≤ i → g i = mpar i) (by
    intro back j z hj hz ih
    obtain ⟨g, rfl, a1, a2, a3⟩ := hz
    unfold m_mm_build_L45
    dsimp only
    by_cases e : j = 4
    · subst e
      rw [mo_T (show (4 : Int32) ≤ nI 4 by decide)]
      exact ⟨_, rfl, a1, a2, a3⟩
    · rw [mo_F (lt4 (by omega)), show (4 : Int32) * nI F + nI j = nI (4 * F + j) from ix_m 4 F j, show (4 : Int32) * nI nB + nI j = nI (4 * nB + j) from ix_m 4 nB j, mo_rIn (by omega) (by decide), mo_wIn (by omega) (by decide), a3 _ (by omega), ← nI_succ]
      refine ih _ (by omega) ⟨_, rfl, fun i hi => ?_, fun i hi => ?_, fun i hi => ?_⟩
      · rw [pk_un (by omega)]; exact a1 i hi
      · by_cases ei : i = j
        · rw [ei, pk_us]
        · rw [pk_un (by omega)]; exact a2 i (by omega)
      · rw [pk_un (by omega)]; exact a3 i hi) 1000 0 (0, mpar) (by decide) ⟨mpar, rfl, fun _ _ => rfl, fun i hi => by omega, fun _ _ => rfl⟩ (by decide)
  exact ⟨o, e1, e2, e3, e4⟩
theorem e_mbL83 {nB F : Nat} {held : Nat → Int32} (hB : nB < 60) (hF : 60 ≤ F) (hF2 : F < 62) : ∃ g : Nat → Int32, mo_lp (m_mm_build_L83 (nI nB) (nI F)) 1000 (0, held) = some g ∧ (∀ j, j < 3 * nB → g j = held j) ∧ (∀ j, j < 3 → g (3 * nB + j) = held (3 * F + j)) ∧ ∀ j, 180 ≤ j → g j = held j := by
  obtain ⟨o, e1, e2, e3, e4⟩ := lp_ix (step := m_mm_build_L83 (nI nB) (nI F)) 3 (fun j z => ∃ g : Nat → Int32, z = (nI j, g) ∧ (∀ i, i < 3 * nB → g i = held i) ∧ (∀ i, i < j → g (3 * nB + i) = held (3 * F + i)) ∧ ∀ i, 180 ≤ i → g i = held i) (fun g => (∀ i, i < 3 * nB → g i = held i) ∧ (∀ i, i < 3 → g (3 * nB + i) = held (3 * F + i)) ∧ ∀ i, 180 ≤ i → g i = held i) (by
    intro back j z hj hz ih
    obtain ⟨g, rfl, a1, a2, a3⟩ := hz
    unfold m_mm_build_L83
    dsimp only
    by_cases e : j = 3
    · subst e
      rw [mo_T (show (3 : Int32) ≤ nI 3 by decide)]
      exact ⟨_, rfl, a1, a2, a3⟩
    · rw [mo_F (show ¬ (3 : Int32) ≤ nI j from nI_ge (b := 3) (by omega) (by decide)), show (3 : Int32) * nI F + nI j = nI (3 * F + j) from ix_m 3 F j, show (3 : Int32) * nI nB + nI j = nI (3 * nB + j) from ix_m 3 nB j, mo_rIn (by omega) (by decide), mo_wIn (by omega) (by decide), a3 _ (by omega), ← nI_succ]
      refine ih _ (by omega) ⟨_, rfl, fun i hi => ?_, fun i hi => ?_, fun i hi => ?_⟩
      · rw [pk_un (by omega)]; exact a1 i hi
      · by_cases ei : i = j
        · rw [ei, pk_us]
        · rw [pk_un (by omega)]; exact a2 i (by omega)
      · rw [pk_un (by omega)]; exact a3 i hi) 1000 0 (0, held) (by decide) ⟨held, rfl, fun _ _ => rfl, fun i hi => by omega, fun _ _ => rfl⟩ (by decide)
  exact ⟨o, e1, e2, e3, e4⟩
theorem e_hashOf {nB nT : Nat} {pp pi : List Nat} {mpc mpar mh hol held mid mbl h ids : Nat → Int32} (n : Int32) (t : Nat) (hB : nB < 60) (hT : nT ≤ 40) (h1 : pp.length ≤ 4) (h2 : ∀ q ∈ pp, q < nB) (h3 : mpc nB = nI pp.length) (h4 : ∀ j q, pp[j]? = some q → mpar (4 * nB + j) = nI q) (h5 : pi.length ≤ 3) (h6 : ∀ q ∈ pi, q < nT) (h7 : hol nB = nI pi.length) (h8 : ∀ j q, pi[j]? = some q → held (3 * nB + j) = nI q) (hh : ∀ y, y < nB → mh y = h y) (hi : ∀ y, y < nT → mid y = ids y) : m_mm_hashOf mpc mpar mh hol held mid mbl (nI nB) (n + nI t) = some (hv1 (mx (pi.foldl (xP ids) (pp.foldl (xP h) 13)) (mbl nB)) n t) := by
  have L1 : mo_lp (m_mm_hashOf_L6 mpc mpar mh (nI nB)) 1000 (13, 0) = some (pp.foldl (xP h) 13) := by
    refine so_eq (lp_ix pp.length (fun j z => z = ((pp.take j).foldl (xP h) 13, nI j)) (fun o => o = pp.foldl (xP h) 13) ?_ 1000 0 (13, 0) (Nat.zero_le _) rfl (by omega))
    intro back j z hj hz ih
    subst hz
    unfold m_mm_hashOf_L6
    dsimp only
    rw [mo_rIn (by omega) (by decide), h3]
    by_cases e : j = pp.length
    · rw [mo_T (nI_le (by omega) (by omega)), e, List.take_length]
      exact ⟨_, rfl, rfl⟩
    · have hj2 : j < pp.length := by omega
      have hq := h2 _ (List.getElem_mem hj2)
      rw [mo_F (nI_ge hj2 (by omega)), show (4 : Int32) * nI nB + nI j = nI (4 * nB + j) from ix_m 4 nB j, mo_rIn (by omega) (by decide), h4 j _ (List.getElem?_eq_getElem hj2), mo_rIn (by omega) (by decide), hh _ hq, e_mmix, mo_bs, ← nI_succ]
      exact ih _ hj2 (by rw [fold_take _ _ _ hj2]; rfl)
  have L2 : ∀ x, mo_lp (m_mm_hashOf_L47 hol held mid (nI nB)) 1000 (x, 0) = some (pi.foldl (xP ids) x) := by
    intro x
    refine so_eq (lp_ix pi.length (fun j z => z = ((pi.take j).foldl (xP ids) x, nI j)) (fun o => o = pi.foldl (xP ids) x) ?_ 1000 0 (x, 0) (Nat.zero_le _) rfl (by omega))
    intro back j z hj hz ih
    subst hz
    unfold m_mm_hashOf_L47
    dsimp only
    rw [mo_rIn (by omega) (by decide), h7]
    by_cases e : j = pi.length
    · rw [mo_T (nI_le (by omega) (by omega)), e, List.take_length]
      exact ⟨_, rfl, rfl⟩
    · have hj2 : j < pi.length := by omega
      have hq := h6 _ (List.getElem_mem hj2)
      rw [mo_F (nI_ge hj2 (by omega)), show (3 : Int32) * nI nB + nI j = nI (3 * nB + j) from ix_m 3 nB j, mo_rIn (by omega) (by decide), h8 j _ (List.getElem?_eq_getElem hj2), mo_rIn (by omega) (by decide), hi _ hq, e_mmix, mo_bs, ← nI_succ]
      exact ih _ hj2 (by rw [fold_take _ _ _ hj2]; rfl)
  unfold m_mm_hashOf
  rw [L1, mo_bs, L2, mo_bs, mo_rIn (by omega) (by decide), e_mmix, mo_bs, e_mmix, mo_bs]
  rfl
theorem e_mbuild {nB nT F : Nat} {pp pi : List Nat} {mpc mpar mh hol held mid mbl h ids : Nat → Int32} (x n : Int32) (hB : nB < 60) (hT : nT ≤ 40) (hF : 60 ≤ F) (hF2 : F < 62) (h1 : pp.length ≤ 4) (h2 : ∀ q ∈ pp, q < nB) (h3 : mpc F = nI pp.length) (h4 : ∀ j q, pp[j]? = some q → mpar (4 * F + j) = nI q) (h5 : pi.length ≤ 3) (h6 : ∀ q ∈ pi, q < nT) (h7 : hol F = nI pi.length) (h8 : ∀ j q, pi[j]? = some q → held (3 * F + j) = nI q) (hh : ∀ y, y < nB → mh y = h y) (hi : ∀ y, y < nT → mid y = ids y) : ∃ mpar' held' : Nat → Int32, m_mm_build (nI nB) mpc hol mpar held mbl mh mid (nI F) x n = some (nI nB, nI (nB + 1), upd mpc nB (nI pp.length), upd hol nB (nI pi.length), mpar', held', upd mbl nB (mx 7 x), upd mh nB (hvP h ids pp pi (mx 7 x) n)) ∧ (∀ j, j < 4 * nB → mpar' j = mpar j) ∧ (∀ j q, pp[j]? = some q → mpar' (4 * nB + j) = nI q) ∧ (∀ j, 240 ≤ j → mpar' j = mpar j) ∧ (∀ j, j < 3 * nB → held' j = held j) ∧ (∀ j q, pi[j]? = some q → held' (3 * nB + j) = nI q) ∧ ∀ j, 180 ≤ j → held' j = held j := by
  obtain ⟨mpar', E1, E2, E3, E4⟩ := e_mbL45 (mpar := mpar) hB hF hF2
  obtain ⟨held', E5, E6, E7, E8⟩ := e_mbL83 (held := held) hB hF hF2
  have P3 : ∀ j q, pp[j]? = some q → mpar' (4 * nB + j) = nI q := fun j q hq => by
    have := (List.getElem?_eq_some_iff.mp hq).1
    rw [E3 j (by omega)]
    exact h4 j q hq
  have P7 : ∀ j q, pi[j]? = some q → held' (3 * nB + j) = nI q := fun j q hq => by
    have := (List.getElem?_eq_some_iff.mp hq).1
    rw [E7 j (by omega)]
    exact h8 j q hq
  refine ⟨mpar', held', ?_, E2, P3, E4, E6, P7, E8⟩
  have HH := fun t => e_hashOf (mbl := upd mbl nB (mx 7 x)) n t hB hT h1 h2 (mpc := upd mpc nB (nI pp.length)) pk_us P3 h5 h6 (hol := upd hol nB (nI pi.length)) pk_us P7 hh hi
  rw [pk_us] at HH
  have key : ∀ f t g, t + f = 39 → f < g → ∃ t', mo_lp (m_mm_build_L134 (nI nB) mh mid n (upd mpc nB (nI pp.length)) (upd hol nB (nI pi.length)) mpar' held' (upd mbl nB (mx 7 x))) g (nI t) = some (nI t') ∧ hv1 (mx (pi.foldl (xP ids) (pp.foldl (xP h) 13)) (mx 7 x)) n t' = wh (mx (pi.foldl (xP ids) (pp.foldl (xP h) 13)) (mx 7 x)) n f t := by
    intro f
    induction f with
    | zero =>
      intro t g ht hg
      obtain ⟨g, rfl⟩ : ∃ a, g = a + 1 := ⟨g - 1, by omega⟩
      refine ⟨t, ?_, rfl⟩
      show m_mm_build_L134 _ _ _ _ _ _ _ _ _ (mo_lp _ g) (nI t) = _
      unfold m_mm_build_L134
      rw [mo_T (show (39 : Int32) ≤ nI t from nI_le (a := 39) (by omega) (by omega))]
    | succ f ih =>
      intro t g ht hg
      obtain ⟨g, rfl⟩ : ∃ a, g = a + 1 := ⟨g - 1, by omega⟩
      obtain ⟨t', I1, I2⟩ := ih (t + 1) g (by omega) (by omega)
      show ∃ t', m_mm_build_L134 _ _ _ _ _ _ _ _ _ (mo_lp _ g) (nI t) = _ ∧ _ = (if hv1 (mx (pi.foldl (xP ids) (pp.foldl (xP h) 13)) (mx 7 x)) n t < 536870912 then hv1 (mx (pi.foldl (xP ids) (pp.foldl (xP h) 13)) (mx 7 x)) n t else wh (mx (pi.foldl (xP ids) (pp.foldl (xP h) 13)) (mx 7 x)) n f (t + 1))
      by_cases c : hv1 (mx (pi.foldl (xP ids) (pp.foldl (xP h) 13)) (mx 7 x)) n t < 536870912
      · refine ⟨t, ?_, by rw [if_pos c]⟩
        unfold m_mm_build_L134
        rw [mo_F (show ¬ (39 : Int32) ≤ nI t from nI_ge (b := 39) (by omega) (by decide)), HH t, mo_bs, mo_T c]
      · refine ⟨t', ?_, by rw [if_neg c]; exact I2⟩
        generalize mo_lp (m_mm_build_L134 (nI nB) mh mid n (upd mpc nB (nI pp.length)) (upd hol nB (nI pi.length)) mpar' held' (upd mbl nB (mx 7 x))) g = back at I1 ⊢
        unfold m_mm_build_L134
        rw [mo_F (show ¬ (39 : Int32) ≤ nI t from nI_ge (b := 39) (by omega) (by decide)), HH t, mo_bs, mo_F c, ← nI_succ]
        exact I1
  obtain ⟨t', K1, K2⟩ := key 39 0 1000 rfl (by decide)
  unfold m_mm_build
  rw [mo_rIn hF2 (by decide), mo_wIn (by omega) (by decide), mo_rIn hF2 (by decide), mo_wIn (by omega) (by decide), E1, mo_bs, E5, mo_bs, e_mmix, mo_bs, mo_wIn (by omega) (by decide), h3, h7]
  have K1 : mo_lp (m_mm_build_L134 (nI nB) mh mid n (upd mpc nB (nI pp.length)) (upd hol nB (nI pi.length)) mpar' held' (upd mbl nB (mx 7 x))) 1000 0 = some (nI t') := K1
  rw [K1, mo_bs, HH t', mo_bs, mo_wIn (by omega) (by decide), K2, ← nI_succ]
  rfl
