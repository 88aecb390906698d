/-! the calls that only read -/
theorem mo_b1 {α : Type} {a b : Option α} : mo_br (bI true = 0) a b = b := rfl
theorem mo_b0 {α : Type} {a b : Option α} : mo_br (bI false = 0) a b = a := rfl
theorem fr_size {nT nB k : Nat} {ins : Nat → List (Nat × Nat × Int32)} {outs : Nat → List (Int32 × Nat)} {P I : Nat → List Nat} {sc : Nat → Nat} {p L : List Nat} {dI : List (Nat × Nat × Int32)} {dO : List (Int32 × Nat)} {pp pi O : List Nat} {M tips lacc aacc : Int64} {ids ic islot ifp iout isec ilock oc olock oamt fpc fpar fic fi bl h pph pih : Nat → Int32} {cp cf cb : Nat → Int64} {cs csel sq fo lam aam ph inp src idx sec outp lock amt mid mpc mpar hol held mbl mh : Nat → Int32} {mp mb : Nat → Int64} {ms msel mo mpool ord macc free coin worth : Nat → Int32} (hR : RG nT nB k ins outs P I sc p L dI dO pp pi O M tips lacc aacc ids ic islot ifp iout isec ilock oc olock oamt fpc fpar fic fi bl h pph pih cp cf cb cs csel sq fo lam aam ph inp src idx sec outp lock amt mid mpc mpar hol held mbl mh mp mb ms msel mo mpool ord macc free coin worth) : m_dg_size M = some (nI L.length) ∧ L.length ≤ 60 ∧ hL sq L ∧ hL ord L ∧ (∀ y, y ∈ L ↔ tb M y = true) := by
  obtain ⟨hSD, hPS, hD, hPL, hO, hDR, ⟨v1, v2, v3, v4, v5, v6, v7, v8⟩, hF⟩ := hR
  have hle := cnt_le M 60
  refine ⟨?_, by omega, v4, v5, v7⟩
  unfold m_dg_size
  rw [e_bitCount, mo_bs, v6, cnt_more (m := 60) (n := 64) (by decide) (fun b h1 h2 => ?_)]
  cases t : tb M b with
  | false => rfl
  | true => have := hDR.1.2.2.1 b t; have := hDR.1.1; omega
theorem op_order {nT nB k : Nat} {ins : Nat → List (Nat × Nat × Int32)} {outs : Nat → List (Int32 × Nat)} {P I : Nat → List Nat} {sc : Nat → Nat} {p L : List Nat} {dI : List (Nat × Nat × Int32)} {dO : List (Int32 × Nat)} {pp pi O : List Nat} {M tips lacc aacc : Int64} {ids ic islot ifp iout isec ilock oc olock oamt fpc fpar fic fi bl h pph pih : Nat → Int32} {cp cf cb : Nat → Int64} {cs csel sq fo lam aam ph inp src idx sec outp lock amt mid mpc mpar hol held mbl mh : Nat → Int32} {mp mb : Nat → Int64} {ms msel mo mpool ord macc free coin worth : Nat → Int32} (x1 : Int32) (hR : RG nT nB k ins outs P I sc p L dI dO pp pi O M tips lacc aacc ids ic islot ifp iout isec ilock oc olock oamt fpc fpar fic fi bl h pph pih cp cf cb cs csel sq fo lam aam ph inp src idx sec outp lock amt mid mpc mpar hol held mbl mh mp mb ms msel mo mpool ord macc free coin worth) : ∃ o : Int32, m_bm_order M sq x1 = some o ∧ m_mm_order (nI L.length) ord x1 = some o := by
  obtain ⟨s1, s2, s3, s4, s5⟩ := fr_size hR
  unfold m_bm_order m_mm_order
  rcases i32_ix (n := L.length) (by omega) x1 with w | ⟨w1, w2, -⟩ | ⟨j, w1, rfl⟩
  · rw [mo_T w, mo_js, mo_T w]; exact ⟨_, rfl, rfl⟩
  · rw [mo_F w1, s1, mo_bs, mo_T w2, mo_js, mo_F w1, mo_F (by rw [Int32.not_lt]; exact w2)]; exact ⟨_, rfl, rfl⟩
  · rw [mo_F (nI_pos (by omega)), s1, mo_bs, mo_F (nI_ge w1 (by omega)), mo_rIn (by omega) (by decide), mo_js, mo_F (nI_pos (by omega)), mo_T (nI_lt w1 (by omega)), mo_rIn (by omega) (by decide), s3 j _ (List.getElem?_eq_getElem w1), s4 j _ (List.getElem?_eq_getElem w1)]
    exact ⟨_, rfl, rfl⟩
theorem op_pool {nT nB k : Nat} {ins : Nat → List (Nat × Nat × Int32)} {outs : Nat → List (Int32 × Nat)} {P I : Nat → List Nat} {sc : Nat → Nat} {p L : List Nat} {dI : List (Nat × Nat × Int32)} {dO : List (Int32 × Nat)} {pp pi O : List Nat} {M tips lacc aacc : Int64} {ids ic islot ifp iout isec ilock oc olock oamt fpc fpar fic fi bl h pph pih : Nat → Int32} {cp cf cb : Nat → Int64} {cs csel sq fo lam aam ph inp src idx sec outp lock amt mid mpc mpar hol held mbl mh : Nat → Int32} {mp mb : Nat → Int64} {ms msel mo mpool ord macc free coin worth : Nat → Int32} (x1 : Int32) (hR : RG nT nB k ins outs P I sc p L dI dO pp pi O M tips lacc aacc ids ic islot ifp iout isec ilock oc olock oamt fpc fpar fic fi bl h pph pih cp cf cb cs csel sq fo lam aam ph inp src idx sec outp lock amt mid mpc mpar hol held mbl mh mp mb ms msel mo mpool ord macc free coin worth) : ∃ o : Int32, m_bm_pool (nI p.length) ph x1 = some o ∧ m_mm_pool (nI p.length) mpool x1 = some o := by
  obtain ⟨hSD, hPS, hD, hPL, hO, hDR, hVR, hF6, u, u2, F2, r1, r2, r3, r4, r5, r6, r7, r8, r9, r10, r11⟩ := hR
  unfold m_bm_pool m_nu_at m_mm_pool
  rcases i32_ix (n := p.length) (by omega) x1 with w | ⟨w1, w2, -⟩ | ⟨j, w1, rfl⟩
  · rw [mo_T w, mo_js, mo_T w]; exact ⟨_, rfl, rfl⟩
  · rw [mo_F w1, mo_T w2, mo_bs, mo_js, mo_F w1, mo_F (by rw [Int32.not_lt]; exact w2)]; exact ⟨_, rfl, rfl⟩
  · rw [mo_F (nI_pos (by omega)), mo_F (nI_ge w1 (by omega)), mo_rIn (by omega) (by decide), mo_bs, mo_js, mo_F (nI_pos (by omega)), mo_T (nI_lt w1 (by omega)), mo_rIn (by omega) (by decide), r8 j _ (List.getElem?_eq_getElem w1), r9 j _ (List.getElem?_eq_getElem w1)]
    exact ⟨_, rfl, rfl⟩
theorem op_parentOf {nT nB k : Nat} {ins : Nat → List (Nat × Nat × Int32)} {outs : Nat → List (Int32 × Nat)} {P I : Nat → List Nat} {sc : Nat → Nat} {p L : List Nat} {dI : List (Nat × Nat × Int32)} {dO : List (Int32 × Nat)} {pp pi O : List Nat} {M tips lacc aacc : Int64} {ids ic islot ifp iout isec ilock oc olock oamt fpc fpar fic fi bl h pph pih : Nat → Int32} {cp cf cb : Nat → Int64} {cs csel sq fo lam aam ph inp src idx sec outp lock amt mid mpc mpar hol held mbl mh : Nat → Int32} {mp mb : Nat → Int64} {ms msel mo mpool ord macc free coin worth : Nat → Int32} (x1 x2 : Int32) (hR : RG nT nB k ins outs P I sc p L dI dO pp pi O M tips lacc aacc ids ic islot ifp iout isec ilock oc olock oamt fpc fpar fic fi bl h pph pih cp cf cb cs csel sq fo lam aam ph inp src idx sec outp lock amt mid mpc mpar hol held mbl mh mp mb ms msel mo mpool ord macc free coin worth) : ∃ o : Int32, m_bm_parentOf (nI nB) fpc fpar x1 x2 = some o ∧ m_mm_parentOf (nI nB) mpc mpar x1 x2 = some o := by
  obtain ⟨⟨hX, hY, hV, hB4, hBm, hI, hIm, hIt, hlk, hh⟩, hPS, hD, hPL, hO, hF⟩ := hR
  have hB := hV.2.1
  unfold m_bm_parentOf m_bl_parentAt m_mm_parentOf
  rcases e_has (n := nB) (by omega) x1 with ⟨a1, a2, a3, a4, a5⟩ | ⟨b, hb, rfl, a1, a2, a3, a4, a5⟩
  · rw [a1, mo_bs, mo_T rfl, a3, mo_bs, mo_js, mo_T rfl]; exact ⟨_, rfl, rfl⟩
  · obtain ⟨c1, c2, c3⟩ := hB4 b hb
    obtain ⟨m1, m2, m3⟩ := hBm b hb
    rw [a1, mo_bs, mo_10, a3, mo_bs, mo_js, mo_10, mo_rIn (by omega) (by decide), mo_rIn (by omega) (by decide), c1, m1]
    rcases i32_ix (n := (P b).length) (by omega) x2 with w | ⟨w1, w2, -⟩ | ⟨j, w1, rfl⟩
    · rw [mo_T w, mo_T w]; exact ⟨_, rfl, rfl⟩
    · rw [mo_F w1, mo_F (by rw [Int32.not_lt]; exact w2), mo_F w1, mo_F (by rw [Int32.not_lt]; exact w2)]; exact ⟨_, rfl, rfl⟩
    · rw [mo_F (nI_pos (by omega)), mo_T (nI_lt w1 (by omega)), mo_F (nI_pos (by omega)), mo_T (nI_lt w1 (by omega)), show nI b * 4 + nI j = nI (4 * b + j) from ix_c 4 b j, show (4 : Int32) * nI b + nI j = nI (4 * b + j) from ix_m 4 b j, mo_rIn (by omega) (by decide), mo_bs, mo_rIn (by omega) (by decide), (c3 j _ (List.getElem?_eq_getElem w1)).1, (m3 j _ (List.getElem?_eq_getElem w1)).1]
      exact ⟨_, rfl, rfl⟩
theorem slot_no {x1 x2 : Int32} (h : ∀ s i, okI 40 60 s i → x1 = nI s → x2 = nI i → False) : m_bm_slotOf x1 x2 = some (-1) := by
  unfold m_bm_slotOf
  rw [mo_js]
  by_cases n1 : x1 < 0
  · have e : x1 < 100 := by rw [Int32.lt_iff_toInt_lt] at n1 ⊢; exact Int.lt_trans n1 (by decide)
    rw [mo_T n1, mo_T e]
  · obtain ⟨s, hs, rfl⟩ := nI_of n1
    have tail : (∀ i, okI 40 60 s i → 100 ≤ s → x2 = nI i → False) → mo_br (nI s < 100) (some (-1)) (mo_br ((160 : Int32) ≤ nI s) (some (-1)) (mo_br (x2 = 0) (some ((80 : Int32) + nI s - 100)) (some (-1)))) = some (-1) := by
      intro hq
      by_cases c1 : s < 100
      · rw [mo_T (show nI s < (100 : Int32) from nI_lt (b := 100) c1 (by decide))]
      · rw [mo_F (show ¬ nI s < (100 : Int32) from nI_nlt (b := 100) (by omega) hs)]
        by_cases c2 : s < 160
        · rw [mo_F (show ¬ (160 : Int32) ≤ nI s from nI_ge (b := 160) c2 (by decide)), mo_F (fun w => hq 0 (Or.inr ⟨by omega, by omega, rfl⟩) (by omega) (w.trans nI_0.symm))]
        · rw [mo_T (show (160 : Int32) ≤ nI s from nI_le (a := 160) (by omega) hs)]
    have t := tail (fun i ho _ hx => h s i ho rfl hx)
    rw [mo_F n1]
    by_cases c : s < 40
    · rw [mo_F (show ¬ (40 : Int32) ≤ nI s from nI_ge (b := 40) c (by decide))]
      by_cases n2 : x2 < 0
      · rw [mo_T n2]; exact t
      · obtain ⟨i, hi, rfl⟩ := nI_of n2
        rw [mo_F n2]
        by_cases c2 : i < 2
        · exact absurd rfl (fun (w : nI s = nI s) => h s i (Or.inl ⟨c, c2⟩) w rfl)
        · rw [mo_T (show (2 : Int32) ≤ nI i from nI_le (a := 2) (by omega) hi)]; exact t
    · rw [mo_T (show (40 : Int32) ≤ nI s from nI_le (a := 40) (by omega) hs)]; exact t
theorem uns_no {nT nB : Nat} {free coin amt worth : Nat → Int32} (hT : nT ≤ 40) (hB : nB ≤ 60) {x1 x2 : Int32} (h : ∀ s i, okI nT nB s i → x1 = nI s → x2 = nI i → False) : m_mm_unspent (nI nT) (nI nB) free coin amt worth x1 x2 = some (-1) := by
  unfold m_mm_unspent
  simp only [mo_js]
  by_cases n1 : x1 < 0
  · have e : x1 < 100 := by rw [Int32.lt_iff_toInt_lt] at n1 ⊢; exact Int.lt_trans n1 (by decide)
    simp only [mo_T e, mo_T n1, mo_00, mo_bT]
  · obtain ⟨s, hs, rfl⟩ := nI_of n1
    by_cases n2 : x2 < 0
    · simp only [mo_T n2, mo_F n1]
      by_cases a : nI s < 100
      · simp only [mo_T a, mo_00, mo_bT]
        by_cases d : nI nT ≤ nI s
        · simp only [mo_T d, mo_00, mo_bT]
        · simp only [mo_F d, mo_10, mo_bF]
      · by_cases b : nI nB ≤ nI s - 100
        · simp only [mo_F a, mo_T b, mo_00, mo_bT]
          by_cases d : nI nT ≤ nI s
          · simp only [mo_T d, mo_00, mo_bT]
          · simp only [mo_F d, mo_10, mo_bF]
        · simp only [mo_F a, mo_F b, mo_10, mo_bF]
          by_cases d : nI nT ≤ nI s
          · simp only [mo_T d]
          · simp only [mo_F d]
    · obtain ⟨i, hi, rfl⟩ := nI_of n2
      by_cases c1 : s < 100
      · have a : nI s < (100 : Int32) := nI_lt (b := 100) c1 (by decide)
        by_cases c2 : s < nT
        · have d : ¬ nI nT ≤ nI s := nI_ge c2 (by omega)
          have c3 : ¬ i < 2 := fun w => h s i (Or.inl ⟨c2, w⟩) rfl rfl
          have e : ¬ nI i ≤ (1 : Int32) := nI_ge (a := 1) (by omega) hi
          simp only [mo_T a, mo_F n1, mo_F d, mo_00, mo_10, mo_bT, mo_bF, mo_F n2, mo_F e]
        · have d : nI nT ≤ nI s := nI_le (by omega) hs
          simp only [mo_T a, mo_F n1, mo_T d, mo_00, mo_bT]
      · have a : ¬ nI s < (100 : Int32) := nI_nlt (b := 100) (by omega) hs
        have d : nI nT ≤ nI s := nI_le (by omega) hs
        by_cases c2 : s - 100 < nB
        · have b : ¬ nI nB ≤ nI s - 100 := by rw [s100 (by omega)]; exact nI_ge c2 (by omega)
          have c3 : ¬ i = 0 := fun w => h s i (Or.inr ⟨by omega, c2, w⟩) rfl rfl
          simp only [mo_F a, mo_F b, mo_F n1, mo_T d, mo_10, mo_bF, mo_F n2]
          by_cases c4 : i = 1
          · have e : nI i ≤ (1 : Int32) := by rw [c4]; decide
            have z : ¬ nI i = 0 := by rw [c4]; decide
            have th : m_mm_there free coin (nI s) (nI i) = some 0 := by
              unfold m_mm_there
              rw [mo_T (show (100 : Int32) ≤ nI s from nI_le (a := 100) (by omega) hs), mo_F z]
            rw [mo_T e, th, mo_bs, mo_T rfl]
          · have e : ¬ nI i ≤ (1 : Int32) := nI_ge (a := 1) (by omega) hi
            rw [mo_F e]
        · have b : nI nB ≤ nI s - 100 := by rw [s100 (by omega)]; exact nI_le (by omega) (by omega)
          simp only [mo_F a, mo_T b, mo_F n1, mo_T d, mo_00, mo_bT]
theorem op_unspent {nT nB k : Nat} {ins : Nat → List (Nat × Nat × Int32)} {outs : Nat → List (Int32 × Nat)} {P I : Nat → List Nat} {sc : Nat → Nat} {p L : List Nat} {dI : List (Nat × Nat × Int32)} {dO : List (Int32 × Nat)} {pp pi O : List Nat} {M tips lacc aacc : Int64} {ids ic islot ifp iout isec ilock oc olock oamt fpc fpar fic fi bl h pph pih : Nat → Int32} {cp cf cb : Nat → Int64} {cs csel sq fo lam aam ph inp src idx sec outp lock amt mid mpc mpar hol held mbl mh : Nat → Int32} {mp mb : Nat → Int64} {ms msel mo mpool ord macc free coin worth : Nat → Int32} (x1 x2 : Int32) (hR : RG nT nB k ins outs P I sc p L dI dO pp pi O M tips lacc aacc ids ic islot ifp iout isec ilock oc olock oamt fpc fpar fic fi bl h pph pih cp cf cb cs csel sq fo lam aam ph inp src idx sec outp lock amt mid mpc mpar hol held mbl mh mp mb ms msel mo mpool ord macc free coin worth) : ∃ o : Int32, m_bm_unspent lam x1 x2 = some o ∧ m_mm_unspent (nI nT) (nI nB) free coin amt worth x1 x2 = some o := by
  obtain ⟨⟨hX, hY, hV, hS⟩, hPS, hD, hPL, hO, hDR, hVR, hF6, u, u2, F2, r1, r2, r3, r4, r5, r6, r7, r8, r9, r10, r11⟩ := hR
  have hT := hV.1
  have hB := hV.2.1
  have hval : ∀ s i, okI 40 60 s i → m_bm_unspent lam (nI s) (nI i) = some (oI (u (slt s i))) := by
    intro s i ho
    have hs := slt_lt (Nat.le_refl _) (Nat.le_refl _) ho
    unfold m_bm_unspent
    rw [(in_yes (Nat.le_refl _) (Nat.le_refl _) ho).1, mo_bs, mo_F (nI_nm1 (by omega)), mo_rIn (by omega) (by decide), r2 _ hs.1]
  by_cases ok : ∃ s i, okI nT nB s i ∧ x1 = nI s ∧ x2 = nI i
  · obtain ⟨s, i, ho, rfl, rfl⟩ := ok
    have ho2 : okI 40 60 s i := ho.imp (fun w => ⟨by omega, w.2⟩) (fun w => ⟨w.1, by omega, w.2.2⟩)
    refine ⟨_, hval s i ho2, ?_⟩
    have hth := e_there r3 hT hB ho
    have n1 : ¬ nI s < 0 := nI_pos (by have := (slt_lt hT hB ho).2.1; omega)
    have n2 : ¬ nI i < 0 := nI_pos (by have := (slt_lt hT hB ho).2.2; omega)
    have e : nI i ≤ (1 : Int32) := nI_le (b := 1) (by have := (slt_lt hT hB ho).2.2; omega) (by decide)
    have fin : (mo_bd (m_mm_there free coin (nI s) (nI i)) fun r65 => mo_br (r65 = 0) (some (-1)) (mo_bd (m_mm_worthOf amt worth (nI s) (nI i)) fun r74 => some r74)) = some (oI (u (slt s i))) := by
      rw [hth, mo_bs]
      cases q : u (slt s i) with
      | none =>
        rw [show (none : Option Nat).isSome = false from rfl, mo_T bI_f]
        rfl
      | some v =>
        rw [show (some v : Option Nat).isSome = true from rfl, mo_F (by decide), e_worthOf r3 hT hB ho q, mo_bs]
        rfl
    unfold m_mm_unspent
    rcases ho with ⟨h1, h2⟩ | ⟨h1, h2, h3⟩
    · have a : nI s < (100 : Int32) := nI_lt (b := 100) (by omega) (by decide)
      have d : ¬ nI nT ≤ nI s := nI_ge h1 (by omega)
      simp only [mo_js, mo_T a, mo_F n1, mo_F d, mo_00, mo_10, mo_bT, mo_bF, mo_F n2, mo_T e]
      exact fin
    · have a : ¬ nI s < (100 : Int32) := nI_nlt (b := 100) (by omega) (by omega)
      have b : ¬ nI nB ≤ nI s - 100 := by rw [s100 (by omega)]; exact nI_ge h2 (by omega)
      have d : nI nT ≤ nI s := nI_le (by omega) (by omega)
      simp only [mo_js, mo_F a, mo_F b, mo_F n1, mo_T d, mo_10, mo_bF, mo_F n2, mo_T e]
      exact fin
  · refine ⟨-1, ?_, uns_no hT hB (fun s i ho e1 e2 => ok ⟨s, i, ho, e1, e2⟩)⟩
    by_cases ok2 : ∃ s i, okI 40 60 s i ∧ x1 = nI s ∧ x2 = nI i
    · obtain ⟨s, i, ho, rfl, rfl⟩ := ok2
      rw [hval s i ho]
      have : u (slt s i) = none := by
        cases q : u (slt s i) with
        | none => rfl
        | some v =>
          exfalso
          unfold slt at q
          rcases ho with ⟨h1, h2⟩ | ⟨h1, h2, h3⟩
          · rw [if_pos (by omega)] at q
            exact ok ⟨s, i, Or.inl ⟨(r4.1 s i v h1 h2 q).1, h2⟩, rfl, rfl⟩
          · rw [if_neg (by omega)] at q
            exact ok ⟨s, i, Or.inr ⟨h1, r4.2.1 (s - 100) v h2 q, h3⟩, rfl, rfl⟩
      rw [this]
      rfl
    · unfold m_bm_unspent
      rw [slot_no (fun s i ho e1 e2 => ok2 ⟨s, i, ho, e1, e2⟩), mo_bs, mo_T rfl]
theorem e_place {M : Int64} {L : List Nat} {sq ord : Nat → Int32} {x : Int32} (h1 : m_dg_size M = some (nI L.length)) (h2 : L.length ≤ 60) (h3 : hL sq L) (h4 : hL ord L) : ∃ o, m_dg_placeOf M sq x = some o ∧ m_mm_placeOf (nI L.length) ord x = some o := by
  have key : ∀ n j f g, j + n = L.length → n < f → n < g → ∃ o, mo_lp (m_dg_placeOf_L2 M sq x) f (nI j) = some o ∧ mo_lp (m_mm_placeOf_L2 (nI L.length) ord x) g (nI j) = some o := by
    intro n
    induction n with
    | zero =>
      intro j f g hj hf hg
      obtain ⟨f, rfl⟩ : ∃ a, f = a + 1 := ⟨f - 1, by omega⟩
      obtain ⟨g, rfl⟩ : ∃ a, g = a + 1 := ⟨g - 1, by omega⟩
      refine ⟨-1, ?_, ?_⟩
      · show m_dg_placeOf_L2 M sq x (mo_lp (m_dg_placeOf_L2 M sq x) f) (nI j) = _
        unfold m_dg_placeOf_L2
        rw [h1, mo_bs, mo_T (nI_le (by omega) (by omega))]
      · show m_mm_placeOf_L2 (nI L.length) ord x (mo_lp (m_mm_placeOf_L2 (nI L.length) ord x) g) (nI j) = _
        unfold m_mm_placeOf_L2
        rw [mo_T (nI_le (by omega) (by omega))]
    | succ n ih =>
      intro j f g hj hf hg
      obtain ⟨f, rfl⟩ : ∃ a, f = a + 1 := ⟨f - 1, by omega⟩
      obtain ⟨g, rfl⟩ : ∃ a, g = a + 1 := ⟨g - 1, by omega⟩
      have hj2 : j < L.length := by omega
      obtain ⟨o, I1, I2⟩ := ih (j + 1) f g (by omega) (by omega) (by omega)
      show ∃ o, m_dg_placeOf_L2 M sq x (mo_lp (m_dg_placeOf_L2 M sq x) f) (nI j) = some o ∧ m_mm_placeOf_L2 (nI L.length) ord x (mo_lp (m_mm_placeOf_L2 (nI L.length) ord x) g) (nI j) = some o
      generalize mo_lp (m_dg_placeOf_L2 M sq x) f = b1 at I1 ⊢
      generalize mo_lp (m_mm_placeOf_L2 (nI L.length) ord x) g = b2 at I2 ⊢
      unfold m_dg_placeOf_L2 m_mm_placeOf_L2
      rw [h1, mo_bs, mo_F (nI_ge hj2 (by omega)), mo_rIn (by omega) (by decide), mo_F (nI_ge hj2 (by omega)), mo_rIn (by omega) (by decide), h3 j _ (List.getElem?_eq_getElem hj2), h4 j _ (List.getElem?_eq_getElem hj2), ← nI_succ]
      by_cases q : nI L[j] = x
      · rw [mo_T q, mo_T q]; exact ⟨_, rfl, rfl⟩
      · rw [mo_F q, mo_F q]; exact ⟨o, I1, I2⟩
  exact key L.length 0 1000 1000 (by omega) (by omega) (by omega)
theorem blk_sel (x2 r : Int32) {A0 A1 A2 A3 A4 A5 B0 B1 B2 B3 B4 B5 : Option Int32} (h0 : ∃ o, A0 = some o ∧ B0 = some o) (h5 : ∃ o, A5 = some o ∧ B5 = some o) (hr : ¬ r = 0 → (∃ o, A1 = some o ∧ B1 = some o) ∧ (∃ o, A2 = some o ∧ B2 = some o) ∧ (∃ o, A3 = some o ∧ B3 = some o) ∧ ∃ o, A4 = some o ∧ B4 = some o) : ∃ o, mo_br (x2 = 0) A0 (mo_br (x2 = 5) A5 (mo_br (r = 0) (some (-1)) (mo_br (x2 = 1) A1 (mo_br (x2 = 2) A2 (mo_br (x2 = 3) A3 (mo_br (x2 = 4) A4 (some (-1)))))))) = some o ∧ mo_br (x2 < 0) (some (-1)) (mo_br (x2 ≤ 5) (mo_br (x2 = 0) B0 (mo_br (x2 = 5) B5 (mo_br (r = 0) (some (-1)) (mo_br (x2 = 3) B3 (mo_br (x2 = 1) B1 (mo_br (x2 = 2) B2 B4)))))) (some (-1))) = some o := by
  by_cases z0 : x2 = 0
  · subst z0; exact h0
  by_cases z5 : x2 = 5
  · subst z5; exact h5
  by_cases q : r = 0
  · rw [mo_F z0, mo_F z5, mo_T q, mo_F z0, mo_F z5, mo_T q]
    refine ⟨-1, rfl, ?_⟩
    by_cases n1 : x2 < 0
    · rw [mo_T n1]
    · rw [mo_F n1]
      by_cases n2 : x2 ≤ 5
      · rw [mo_T n2]
      · rw [mo_F n2]
  obtain ⟨h1, h2, h3, h4⟩ := hr q
  rw [mo_F z0, mo_F z5, mo_F q, mo_F z0, mo_F z5, mo_F q]
  by_cases z1 : x2 = 1
  · subst z1; exact h1
  by_cases z2 : x2 = 2
  · subst z2; exact h2
  by_cases z3 : x2 = 3
  · subst z3; exact h3
  by_cases z4 : x2 = 4
  · subst z4; exact h4
  rw [mo_F z1, mo_F z2, mo_F z3, mo_F z4]
  refine ⟨-1, rfl, ?_⟩
  by_cases n1 : x2 < 0
  · rw [mo_T n1]
  rw [mo_F n1]
  by_cases n2 : x2 ≤ 5
  · exfalso
    obtain ⟨j, hj, rfl⟩ := nI_of n1
    have j5 : j ≤ 5 := (nI_leI hj (by decide : 5 < 2 ^ 31)).mp n2
    have q0 : j ≠ 0 := fun e => z0 (by rw [e]; rfl)
    have q1 : j ≠ 1 := fun e => z1 (by rw [e]; rfl)
    have q2 : j ≠ 2 := fun e => z2 (by rw [e]; rfl)
    have q3 : j ≠ 3 := fun e => z3 (by rw [e]; rfl)
    have q4 : j ≠ 4 := fun e => z4 (by rw [e]; rfl)
    have q5 : j ≠ 5 := fun e => z5 (by rw [e]; rfl)
    omega
  · rw [mo_F n2]
theorem blk_0 {nB b : Nat} {M : Int64} {O : List Nat} {fo mo : Nat → Int32} {cb mb : Nat → Int64} (hO : OR nB M O fo mo) (hB : nB ≤ 60) (hb : b < nB) (v3 : mb 60 = cb 60) : ∃ o, (mo_bd (m_bm_standingOf (nI O.length) fo M cb (nI b)) fun r19 => some r19) = some o ∧ mo_br (bI (tb M b) = 0) (mo_bd (m_mm_isOrphan (nI O.length) mo (nI b)) fun r60 => mo_br (r60 = 0) (some 0) (some 3)) (mo_rL mb 61 60 fun v42 => mo_bd (m_mm_in v42 (nI b)) fun r44 => mo_br (r44 = 0) (some 1) (some 2)) = some o := by
  obtain ⟨o1, o2, o3, o4, o5⟩ := hO
  have r60 : ∀ {γ : Type} {f : Nat → Int64} {kk : Int64 → Option γ}, mo_rL f 61 60 kk = kk (f 60) := fun {γ f kk} => mo_rLn (j := 60) (by decide) (by decide)
  have hO60 : ∀ y ∈ O, y < 1000 := fun y hy => by have := (o4 y hy).1; omega
  unfold m_bm_standingOf m_dg_isBlue
  rw [e_nuHas o1 (by omega) (by decide) hO60 (by omega), mo_bs, e_dgHas M (by omega), r60, r60, v3, e_isOrphan o2 o3 hO60 (by omega)]
  cases t : tb M b with
  | true =>
    have hno : b ∉ O := fun w => by rw [(o4 b w).2] at t; cases t
    rw [pB_f hno, mo_b0, mo_bs, mo_b1, mo_b1, e_holds' _ (by omega), e_in' _ (by omega), mo_bs, mo_bs, z_bI, mo_bs]
    cases tb (cb 60) b with
    | true => exact ⟨2, rfl, rfl⟩
    | false => exact ⟨1, rfl, rfl⟩
  | false =>
    by_cases q : b ∈ O
    · rw [pB_t q]; exact ⟨3, rfl, rfl⟩
    · rw [pB_f q]; exact ⟨0, rfl, rfl⟩
theorem blk_4 {N k b : Nat} {P : Nat → List Nat} {M tips : Int64} {sc : Nat → Nat} {cs csel ms msel : Nat → Int32} {cp cb cf mp mb : Nat → Int64} (hR : DR N k P M tips sc cs csel cp cb cf ms msel mp mb) (t : tb M b = true) : ∃ o, (mo_bd (m_dg_mergedBy csel cp (nI b)) fun r118 => mo_bd (m_jl_bitCount r118) fun r121 => some r121) = some o ∧ mo_br (nI b = 0) (some 0) (mo_rL mp 61 (nI b) fun v142 => mo_rI msel 61 (nI b) fun v152 => mo_rL mp 61 v152 fun v153 => mo_bd (m_mm_many (v142 &&& (v153 ^^^ (-1)))) fun r159 => some (r159 - 1)) = some o := by
  obtain ⟨⟨d1, d2, d3, d4, d5, d6, d7⟩, ha, e1, e2, e3, e4, e5, e6, e7, e8, e9, e10⟩ := hR
  obtain ⟨m1, m2, m3, m4⟩ := ha b t
  have hb := d3 b t
  by_cases b0 : b = 0
  · subst b0
    unfold m_dg_mergedBy
    rw [mo_rIn (by decide) (by decide), e8, mo_T rfl, mo_bs, e_bitCount, mo_bs, cnt_zero, mo_T nI_0]
    exact ⟨_, rfl, rfl⟩
  · obtain ⟨s, q1, q2⟩ := e7 b t b0
    obtain ⟨q3, q4⟩ := e5 b t s q2
    have hs := d3 s q3
    have inb : tb (cp b) s = true := (e6 b s t).mpr ⟨s, q2, Or.inl rfl⟩
    have ins : tb (cp s) s = false := by
      cases w : tb (cp s) s with
      | false => rfl
      | true => have := (d5 s s q3 w).2; omega
    have hx : tb (cp b &&& (cp s ^^^ (-1))) s = true := by
      rw [tb_and, tb_not _ (by omega), inb, ins]; rfl
    have hc := cnt_del (x := cp b &&& (cp s ^^^ (-1))) (y := mgd cp b s) hx (fun c hc => by
      unfold mgd
      rw [tb_and, tb_not _ hc, tb_bi (by omega)]) (n := 60) (by decide) (by omega)
    have h64 : cnt (mgd cp b s) 64 = cnt (mgd cp b s) 60 := cnt_more (by decide) (fun c h1 h2 => by
      cases w : tb (mgd cp b s) c with
      | false => rfl
      | true =>
        rw [tb_mgd (by omega) (by omega), Bool.and_eq_true, Bool.and_eq_true] at w
        have := d3 c (d5 b c t w.1.1).1
        omega)
    rw [e_mergedBy (by omega) (by omega) q1, mo_bs, e_bitCount, mo_bs, mo_F (nI_ne0 (by omega) (by omega)), mo_rLn (by omega) (by decide), mo_rIn (by omega) (by decide), m2, q1, mo_rLn (by omega) (by decide), m3, (ha s q3).2.2.1, e_many, mo_bs, ← hc, nI_pred, h64]
    exact ⟨_, rfl, rfl⟩
theorem blk_core {nB k : Nat} {P : Nat → List Nat} {sc : Nat → Nat} {L O : List Nat} {M tips : Int64} {fo mo h mh cs csel sq ms msel ord : Nat → Int32} {cp cb cf mp mb : Nat → Int64} (x1 x2 : Int32) (hB : nB ≤ 60) (hO : OR nB M O fo mo) (hR : DR nB k P M tips sc cs csel cp cb cf ms msel mp mb) (v3 : mb 60 = cb 60) (s1 : m_dg_size M = some (nI L.length)) (s2 : L.length ≤ 60) (s3 : hL sq L) (s4 : hL ord L) (hh : ∀ y, y < nB → mh y = h y) : ∃ o : Int32, m_bm_block (nI nB) (nI O.length) fo M cb h cs csel sq cp x1 x2 = some o ∧ m_mm_block (nI nB) M (nI O.length) (nI L.length) mb mo mh ord ms msel mp x1 x2 = some o := by
  unfold m_bm_block m_mm_block
  rcases e_has (n := nB) (by omega) x1 with ⟨a1, a2, a3, a4, a5⟩ | ⟨b, hb, rfl, a1, a2, a3, a4, a5⟩
  · rw [a1, mo_bs, mo_00, a3, mo_bs, mo_00]; exact ⟨_, rfl, rfl⟩
  rw [a1, mo_bs, mo_10, a3, mo_bs, mo_10, e_dgHas M (by omega), mo_bs, e_in' M (by omega), mo_bs]
  refine blk_sel x2 (bI (tb M b)) (blk_0 hO hB hb v3) ?_ (fun q => ?_)
  · rw [mo_rIn (by omega) (by decide), mo_rIn (by omega) (by decide), hh b hb]
    exact ⟨_, rfl, rfl⟩
  · have t : tb M b = true := by
      cases w : tb M b with
      | true => rfl
      | false => rw [w] at q; exact absurd bI_f q
    obtain ⟨m1, m2, m3, m4⟩ := hR.2.1 b t
    refine ⟨?_, ?_, ?_, blk_4 hR t⟩
    · rw [mo_rIn (by omega) (by decide), mo_rIn (by omega) (by decide), m1]; exact ⟨_, rfl, rfl⟩
    · rw [mo_rIn (by omega) (by decide), mo_rIn (by omega) (by decide), m2]; exact ⟨_, rfl, rfl⟩
    · obtain ⟨o, p1, p2⟩ := e_place (x := nI b) s1 s2 s3 s4
      rw [p1, mo_bs, p2, mo_bs]; exact ⟨_, rfl, rfl⟩
theorem op_block {nT nB k : Nat} {ins : Nat → List (Nat × Nat × Int32)} {outs : Nat → List (Int32 × Nat)} {P I : Nat → List Nat} {sc : Nat → Nat} {p L : List Nat} {dI : List (Nat × Nat × Int32)} {dO : List (Int32 × Nat)} {pp pi O : List Nat} {M tips lacc aacc : Int64} {ids ic islot ifp iout isec ilock oc olock oamt fpc fpar fic fi bl h pph pih : Nat → Int32} {cp cf cb : Nat → Int64} {cs csel sq fo lam aam ph inp src idx sec outp lock amt mid mpc mpar hol held mbl mh : Nat → Int32} {mp mb : Nat → Int64} {ms msel mo mpool ord macc free coin worth : Nat → Int32} (x1 x2 : Int32) (hR : RG nT nB k ins outs P I sc p L dI dO pp pi O M tips lacc aacc ids ic islot ifp iout isec ilock oc olock oamt fpc fpar fic fi bl h pph pih cp cf cb cs csel sq fo lam aam ph inp src idx sec outp lock amt mid mpc mpar hol held mbl mh mp mb ms msel mo mpool ord macc free coin worth) : ∃ o : Int32, m_bm_block (nI nB) (nI O.length) fo M cb h cs csel sq cp x1 x2 = some o ∧ m_mm_block (nI nB) M (nI O.length) (nI L.length) mb mo mh ord ms msel mp x1 x2 = some o := by
  obtain ⟨s1, s2, s3, s4, s5⟩ := fr_size hR
  obtain ⟨⟨hX, hY, hV, hB4, hBm, hI, hIm, hIt, hlk, hh⟩, hPS, hD, hPL, hO, hDR, hVR, hF6, hF⟩ := hR
  exact blk_core x1 x2 hV.2.1 hO hDR hVR.2.2.1 s1 s2 s3 s4 hh
