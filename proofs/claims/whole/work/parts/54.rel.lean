/-! both worlds side by side: what is the same in them -/
def fpr (ids h : Nat → Int32) (s : Nat) : Int32 := if s < 100 then ids s else h (s - 100)
def PS (nB : Nat) (P : Nat → List Nat) : Prop := ∀ b, b < nB → (∀ p ∈ P b, p < b) ∧ (b ≠ 0 → P b ≠ [])
/-- the transaction that is being made, and the ids -/
def TD (nT nB : Nat) (dI : List (Nat × Nat × Int32)) (dO : List (Int32 × Nat)) (ids ic islot ifp iout isec ilock oc olock oamt h mid inp src idx sec outp lock amt : Nat → Int32) : Prop :=
  (∀ t, t < nT → mid t = ids t) ∧ dI.length ≤ 2 ∧ dO.length ≤ 2 ∧ ic nT = nI dI.length ∧ inp 40 = nI dI.length ∧ oc nT = nI dO.length ∧ outp 40 = nI dO.length ∧
  (∀ j s i c, dI[j]? = some (s, i, c) → okI nT nB s i ∧ islot (2 * nT + j) = nI (slt s i) ∧ ifp (2 * nT + j) = fpr ids h s ∧ iout (2 * nT + j) = nI i ∧ isec (2 * nT + j) = c ∧ ilock (2 * nT + j) = mx 7 c ∧ src (80 + j) = nI s ∧ idx (80 + j) = nI i ∧ sec (80 + j) = c) ∧
  (∀ j lk a, dO[j]? = some (lk, a) → a ≤ 1000 ∧ olock (2 * nT + j) = lk ∧ oamt (2 * nT + j) = nI a ∧ lock (80 + j) = lk ∧ amt (80 + j) = nI a) ∧
  (∀ t, nT < t → t < 41 → ic t = 0 ∧ oc t = 0)
/-- the block that is being planned -/
def PL (nT nB : Nat) (pp pi : List Nat) (pph pih mpc mpar hol held : Nat → Int32) : Prop :=
  pp.length ≤ 4 ∧ pi.length ≤ 3 ∧ (∀ x ∈ pp, x < nB) ∧ (∀ x ∈ pi, x < nT) ∧ hL pph pp ∧ hL pih pi ∧ mpc 60 = nI pp.length ∧ (∀ j x, pp[j]? = some x → mpar (240 + j) = nI x) ∧ hol 60 = nI pi.length ∧ (∀ j x, pi[j]? = some x → held (180 + j) = nI x)
def OR (nB : Nat) (M : Int64) (O : List Nat) (fo mo : Nat → Int32) : Prop := hL fo O ∧ hL mo O ∧ O.length ≤ 4 ∧ (∀ b ∈ O, b < nB ∧ tb M b = false) ∧ O.Nodup
def RG (nT nB k : Nat) (ins : Nat → List (Nat × Nat × Int32)) (outs : Nat → List (Int32 × Nat)) (P I : Nat → List Nat) (sc : Nat → Nat) (p L : List Nat) (dI : List (Nat × Nat × Int32)) (dO : List (Int32 × Nat)) (pp pi O : List Nat) (M tips lacc aacc : Int64) (ids ic islot ifp iout isec ilock oc olock oamt fpc fpar fic fi bl h pph pih : Nat → Int32) (cp cf cb : Nat → Int64) (cs csel sq fo lam aam ph inp src idx sec outp lock amt mid mpc mpar hol held mbl mh : Nat → Int32) (mp mb : Nat → Int64) (ms msel mo mpool ord macc free coin worth : Nat → Int32) : Prop :=
  SD nT nB ins outs P I h bl ic islot ilock oc olock oamt fpc fpar fic fi inp src idx sec outp lock amt mpc mpar hol held mbl mh ∧ PS nB P ∧ TD nT nB dI dO ids ic islot ifp iout isec ilock oc olock oamt h mid inp src idx sec outp lock amt ∧ PL nT nB pp pi pph pih mpc mpar hol held ∧ OR nB M O fo mo ∧ FR nT nB k ins outs P I M tips sc p h bl olock amt cs csel sq lam aam ph cp cb cf lacc aacc ms msel ord macc free coin worth mpool mp mb L
theorem mo_00 {α : Type} {a b : Option α} : mo_br ((0 : Int32) = 0) a b = a := rfl
theorem mo_10 {α : Type} {a b : Option α} : mo_br ((1 : Int32) = 0) a b = b := rfl
theorem mo_bT {α : Type} [Decidable True] {a b : Option α} : mo_br True a b = a := if_pos trivial
theorem mo_bF {α : Type} [Decidable False] {a b : Option α} : mo_br False a b = b := if_neg id
theorem N_eq {a b : Nat} (h : a ≠ b) (ha : a < 2 ^ 31) (hb : b < 2 ^ 31) : ¬ nI a = nI b := fun e => h ((nI_eq ha hb).mp e)
theorem i32_ix {n : Nat} (hn : n < 2 ^ 31) (x : Int32) : x < 0 ∨ (¬ x < 0 ∧ nI n ≤ x ∧ ∃ j, n ≤ j ∧ j < 2 ^ 31 ∧ x = nI j) ∨ ∃ b, b < n ∧ x = nI b := by
  by_cases h : x < 0
  · exact Or.inl h
  · obtain ⟨j, hj, rfl⟩ := nI_of h
    by_cases e : j < n
    · exact Or.inr (Or.inr ⟨j, e, rfl⟩)
    · exact Or.inr (Or.inl ⟨h, nI_le (by omega) hj, j, by omega, hj, rfl⟩)
theorem e_has {n : Nat} (hn : n ≤ 100) (x : Int32) : (m_bl_has (nI n) x = some 0 ∧ m_tr_has (nI n) x = some 0 ∧ m_mm_isBlock (nI n) x = some 0 ∧ (∀ b, b < n → x ≠ nI b) ∧ (x < 0 ∨ (¬ x < 0 ∧ nI n ≤ x))) ∨ ∃ b, b < n ∧ x = nI b ∧ m_bl_has (nI n) x = some 1 ∧ m_tr_has (nI n) x = some 1 ∧ m_mm_isBlock (nI n) x = some 1 ∧ ¬ x < 0 ∧ ¬ nI n ≤ x := by
  rcases i32_ix (n := n) (by omega) x with h | ⟨h1, h2, j, h3, h4, h5⟩ | ⟨b, h1, h2⟩
  · refine Or.inl ⟨mo_T h, mo_T h, mo_T h, fun b hb e => ?_, Or.inl h⟩
    rw [e] at h
    exact nI_pos (by omega) h
  · refine Or.inl ⟨?_, ?_, ?_, fun b hb e => ?_, Or.inr ⟨h1, h2⟩⟩
    · unfold m_bl_has; rw [mo_F h1, mo_T h2]
    · unfold m_tr_has; rw [mo_F h1, mo_T h2]
    · unfold m_mm_isBlock; rw [mo_F h1, mo_T h2]
    · rw [e] at h2; exact nI_ge hb (by omega) h2
  · subst h2
    have a1 : ¬ nI b < 0 := nI_pos (by omega)
    have a2 : ¬ nI n ≤ nI b := nI_ge h1 (by omega)
    refine Or.inr ⟨b, h1, rfl, ?_, ?_, ?_, a1, a2⟩
    · unfold m_bl_has; rw [mo_F a1, mo_F a2]
    · unfold m_tr_has; rw [mo_F a1, mo_F a2]
    · unfold m_mm_isBlock; rw [mo_F a1, mo_F a2]
theorem in_yes {nT nB s i : Nat} (hT : nT ≤ 40) (hB : nB ≤ 60) (ho : okI nT nB s i) : m_bm_slotOf (nI s) (nI i) = some (nI (slt s i)) ∧ m_bm_isSource (nI nT) (nI nB) (nI s) = some 1 := by
  unfold m_bm_slotOf m_bm_isSource slt
  rcases ho with ⟨h1, h2⟩ | ⟨h1, h2, h3⟩
  · rw [if_pos (by omega), mo_js, mo_F (nI_pos (by omega)), mo_F (show ¬ (40 : Int32) ≤ nI s from nI_ge (b := 40) (by omega) (by decide)), mo_F (nI_pos (by omega)), mo_F (show ¬ (2 : Int32) ≤ nI i from nI_ge (b := 2) (by omega) (by decide)), mo_F (show ¬ (100 : Int32) ≤ nI s from nI_ge (b := 100) (by omega) (by decide))]
    unfold m_tr_has
    rw [mo_F (nI_pos (by omega)), mo_F (nI_ge h1 (by omega)), mo_bs, mo_z1, show nI s * 2 + nI i = nI (2 * s + i) from ix_c 2 s i]
    exact ⟨rfl, rfl⟩
  · subst h3
    rw [if_neg (by omega), mo_js, mo_F (nI_pos (by omega)), mo_T (show (40 : Int32) ≤ nI s from nI_le (a := 40) (by omega) (by omega)), mo_F (show ¬ nI s < (100 : Int32) from nI_nlt (b := 100) (by omega) (by omega)), mo_F (show ¬ (160 : Int32) ≤ nI s from nI_ge (b := 160) (by omega) (by decide)), mo_T nI_0, mo_T (show (100 : Int32) ≤ nI s from nI_le (a := 100) (by omega) (by omega)), s100 h1]
    unfold m_bl_has
    rw [mo_F (nI_pos (by omega)), mo_F (nI_ge h2 (by omega)), mo_bs, mo_z1, show (80 : Int32) + nI s = nI (80 + s) from nI_add 80 s, show nI (80 + s) - 100 = nI (80 + s - 100) from pk_sub (b := 100) (by omega), show 80 + s - 100 = 80 + (s - 100) by omega]
    exact ⟨rfl, rfl⟩
theorem in_cases {nT nB : Nat} {inp src idx sec : Nat → Int32} (hT : nT ≤ 40) (hB : nB ≤ 60) (x1 x2 x3 : Int32) : (∃ s i, okI nT nB s i ∧ x1 = nI s ∧ x2 = nI i) ∨ ((m_bm_slotOf x1 x2 = some (-1) ∨ ∃ r, m_bm_slotOf x1 x2 = some r ∧ ¬ r = -1 ∧ m_bm_isSource (nI nT) (nI nB) x1 = some 0) ∧ m_mm_input (nI nT) (nI nB) inp src idx sec x1 x2 x3 = some (0, inp, src, idx, sec)) := by
  by_cases n1 : x1 < 0
  · refine Or.inr ⟨Or.inl ?_, ?_⟩
    · unfold m_bm_slotOf
      have e : x1 < 100 := by rw [Int32.lt_iff_toInt_lt] at n1 ⊢; exact Int.lt_trans n1 (by decide)
      rw [mo_js, mo_T n1, mo_T e]
    · unfold m_mm_input
      have e : x1 < 100 := by rw [Int32.lt_iff_toInt_lt] at n1 ⊢; exact Int.lt_trans n1 (by decide)
      simp only [mo_js, mo_T e, mo_T n1, mo_00, mo_bT]
  obtain ⟨s, hs, rfl⟩ := nI_of n1
  by_cases n2 : x2 < 0
  · refine Or.inr ⟨Or.inl ?_, ?_⟩
    · unfold m_bm_slotOf
      have z : ¬ x2 = 0 := fun e => by rw [e] at n2; exact absurd n2 (by decide)
      rw [mo_js, mo_F n1, mo_T n2, mo_F z]
      by_cases a : (40 : Int32) ≤ nI s
      · rw [mo_T a]
        by_cases b : nI s < 100
        · rw [mo_T b]
        · rw [mo_F b]
          by_cases c : (160 : Int32) ≤ nI s
          · rw [mo_T c]
          · rw [mo_F c]
      · rw [mo_F a]
        by_cases b : nI s < 100
        · rw [mo_T b]
        · rw [mo_F b]
          by_cases c : (160 : Int32) ≤ nI s
          · rw [mo_T c]
          · rw [mo_F c]
    · unfold m_mm_input
      simp only [mo_js, mo_T n2, mo_F n1]
      by_cases a : nI s < 100
      · simp only [mo_T a, mo_00, mo_bT]
        by_cases d : nI nT ≤ nI s
        · simp only [mo_T d, mo_00, mo_bT]
        · simp only [mo_F d, mo_10, mo_bF]
      · by_cases b : nI nB ≤ nI s - 100
        · simp only [mo_F a, mo_T b, mo_00, mo_bT]
          by_cases d : nI nT ≤ nI s
          · simp only [mo_T d, mo_00, mo_bT]
          · simp only [mo_F d, mo_10, mo_bF]
        · simp only [mo_F a, mo_F b, mo_10, mo_bF]
          by_cases d : nI nT ≤ nI s
          · simp only [mo_T d]
          · simp only [mo_F d]
  obtain ⟨i, hi, rfl⟩ := nI_of n2
  by_cases c1 : s < 40
  · by_cases c2 : i < 2
    · by_cases c3 : s < nT
      · exact Or.inl ⟨s, i, Or.inl ⟨c3, c2⟩, rfl, rfl⟩
      · refine Or.inr ⟨Or.inr ⟨nI (2 * s + i), ?_, nI_nm1 (by omega), ?_⟩, ?_⟩
        · unfold m_bm_slotOf
          rw [mo_js, mo_F n1, mo_F (show ¬ (40 : Int32) ≤ nI s from nI_ge (b := 40) (by omega) (by decide)), mo_F n2, mo_F (show ¬ (2 : Int32) ≤ nI i from nI_ge (b := 2) (by omega) (by decide)), show nI s * 2 + nI i = nI (2 * s + i) from ix_c 2 s i]
        · unfold m_bm_isSource m_tr_has
          rw [mo_F (show ¬ (100 : Int32) ≤ nI s from nI_ge (b := 100) (by omega) (by decide)), mo_F n1, mo_T (nI_le (by omega) (by omega)), mo_bs, mo_z0]
        · unfold m_mm_input
          have d : nI nT ≤ nI s := nI_le (by omega) (by omega)
          simp only [mo_js, mo_T (show nI s < (100 : Int32) from nI_lt (b := 100) (by omega) (by decide)), mo_F n1, mo_T d, mo_00, mo_bT]
    · refine Or.inr ⟨Or.inl ?_, ?_⟩
      · unfold m_bm_slotOf
        rw [mo_js, mo_F n1, mo_F (show ¬ (40 : Int32) ≤ nI s from nI_ge (b := 40) (by omega) (by decide)), mo_F n2, mo_T (show (2 : Int32) ≤ nI i from nI_le (a := 2) (by omega) (by omega)), mo_T (show nI s < (100 : Int32) from nI_lt (b := 100) (by omega) (by decide))]
      · unfold m_mm_input
        by_cases c3 : s < nT
        · have d : ¬ nI nT ≤ nI s := nI_ge c3 (by omega)
          have c : (1 : Int32) < nI i := nI_lt (a := 1) (by omega) (by omega)
          simp only [mo_js, mo_T (show nI s < (100 : Int32) from nI_lt (b := 100) (by omega) (by decide)), mo_F n1, mo_F d, mo_00, mo_10, mo_bT, mo_bF, mo_F n2, mo_T c]
        · have d : nI nT ≤ nI s := nI_le (by omega) (by omega)
          simp only [mo_js, mo_T (show nI s < (100 : Int32) from nI_lt (b := 100) (by omega) (by decide)), mo_F n1, mo_T d, mo_00, mo_bT]
  by_cases c4 : s < 100
  · refine Or.inr ⟨Or.inl ?_, ?_⟩
    · unfold m_bm_slotOf
      rw [mo_js, mo_F n1, mo_T (show (40 : Int32) ≤ nI s from nI_le (a := 40) (by omega) (by omega)), mo_T (show nI s < (100 : Int32) from nI_lt (b := 100) (by omega) (by decide))]
    · unfold m_mm_input
      have d : nI nT ≤ nI s := nI_le (by omega) (by omega)
      simp only [mo_js, mo_T (show nI s < (100 : Int32) from nI_lt (b := 100) (by omega) (by decide)), mo_F n1, mo_T d, mo_00, mo_bT]
  · have h100 : ¬ nI s < (100 : Int32) := nI_nlt (b := 100) (by omega) (by omega)
    by_cases c5 : s - 100 < nB
    · by_cases c6 : i = 0
      · exact Or.inl ⟨s, i, Or.inr ⟨by omega, c5, c6⟩, rfl, rfl⟩
      · refine Or.inr ⟨Or.inl ?_, ?_⟩
        · unfold m_bm_slotOf
          rw [mo_js, mo_F n1, mo_T (show (40 : Int32) ≤ nI s from nI_le (a := 40) (by omega) (by omega)), mo_F h100, mo_F (show ¬ (160 : Int32) ≤ nI s from nI_ge (b := 160) (by omega) (by decide)), mo_F (show ¬ nI i = 0 from nI_ne0 (by omega) hi)]
        · unfold m_mm_input
          have d : nI nT ≤ nI s := nI_le (by omega) (by omega)
          have b : ¬ nI nB ≤ nI s - 100 := by rw [s100 (by omega)]; exact nI_ge c5 (by omega)
          have c : (0 : Int32) < nI i := nI_lt (a := 0) (by omega) (by omega)
          simp only [mo_js, mo_F h100, mo_F b, mo_F n1, mo_T d, mo_10, mo_bF, mo_F n2, mo_T c]
    · refine Or.inr ⟨?_, ?_⟩
      · by_cases c7 : s < 160
        · by_cases c6 : i = 0
          · subst c6
            refine Or.inr ⟨nI (80 + s - 100), ?_, nI_nm1 (by omega), ?_⟩
            · unfold m_bm_slotOf
              rw [mo_js, mo_F n1, mo_T (show (40 : Int32) ≤ nI s from nI_le (a := 40) (by omega) (by omega)), mo_F h100, mo_F (show ¬ (160 : Int32) ≤ nI s from nI_ge (b := 160) (by omega) (by decide)), mo_T nI_0, show (80 : Int32) + nI s = nI (80 + s) from nI_add 80 s, show nI (80 + s) - 100 = nI (80 + s - 100) from pk_sub (b := 100) (by omega)]
            · unfold m_bm_isSource m_bl_has
              rw [mo_T (show (100 : Int32) ≤ nI s from nI_le (a := 100) (by omega) (by omega)), s100 (by omega), mo_F (nI_pos (by omega)), mo_T (nI_le (by omega) (by omega)), mo_bs, mo_z0]
          · refine Or.inl ?_
            unfold m_bm_slotOf
            rw [mo_js, mo_F n1, mo_T (show (40 : Int32) ≤ nI s from nI_le (a := 40) (by omega) (by omega)), mo_F h100, mo_F (show ¬ (160 : Int32) ≤ nI s from nI_ge (b := 160) (by omega) (by decide)), mo_F (show ¬ nI i = 0 from nI_ne0 (by omega) hi)]
        · refine Or.inl ?_
          unfold m_bm_slotOf
          rw [mo_js, mo_F n1, mo_T (show (40 : Int32) ≤ nI s from nI_le (a := 40) (by omega) (by omega)), mo_F h100, mo_T (show (160 : Int32) ≤ nI s from nI_le (a := 160) (by omega) (by omega))]
      · unfold m_mm_input
        have d : nI nT ≤ nI s := nI_le (by omega) (by omega)
        have b : nI nB ≤ nI s - 100 := by rw [s100 (by omega)]; exact nI_le (by omega) (by omega)
        simp only [mo_js, mo_F h100, mo_T b, mo_F n1, mo_T d, mo_00, mo_bT]
