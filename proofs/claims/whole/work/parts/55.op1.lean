theorem snoc_get {α : Type} {l : List α} {x : α} {j : Nat} {y : α} (h : (l ++ [x])[j]? = some y) : (j < l.length ∧ l[j]? = some y) ∨ (j = l.length ∧ y = x) := by
  rw [List.getElem?_append] at h
  by_cases e : j < l.length
  · rw [if_pos e] at h; exact Or.inl ⟨e, h⟩
  · rw [if_neg e] at h
    have hl := (List.getElem?_eq_some_iff.mp h).1
    have hj : j - l.length = 0 := by simp at hl; omega
    rw [hj] at h
    exact Or.inr ⟨by omega, (Option.some.inj h).symm⟩
theorem TX_up {nT : Nat} {ins : Nat → List (Nat × Nat × Int32)} {outs : Nat → List (Int32 × Nat)} {ic islot ilock oc olock oamt ic' islot' ilock' oc' olock' oamt' : Nat → Int32} (hV : ∀ t, t < nT → (ins t).length ≤ 2 ∧ (outs t).length ≤ 2) (h : TX nT ins outs ic islot ilock oc olock oamt) (h1 : ∀ t, t < nT → ic' t = ic t ∧ oc' t = oc t) (h2 : ∀ j, j < 2 * nT → islot' j = islot j ∧ ilock' j = ilock j ∧ olock' j = olock j ∧ oamt' j = oamt j) : TX nT ins outs ic' islot' ilock' oc' olock' oamt' := by
  intro t ht
  obtain ⟨a1, a2, a3, a4⟩ := h t ht
  obtain ⟨v1, v2⟩ := hV t ht
  refine ⟨by rw [(h1 t ht).1]; exact a1, fun k s i c hk => ?_, by rw [(h1 t ht).2]; exact a3, fun k lk a hk => ?_⟩
  · have hl := (List.getElem?_eq_some_iff.mp hk).1
    rw [(h2 (2 * t + k) (by omega)).1, (h2 (2 * t + k) (by omega)).2.1]
    exact a2 k s i c hk
  · have hl := (List.getElem?_eq_some_iff.mp hk).1
    rw [(h2 (2 * t + k) (by omega)).2.2.1, (h2 (2 * t + k) (by omega)).2.2.2]
    exact a4 k lk a hk
theorem TM_up {nT : Nat} {ins : Nat → List (Nat × Nat × Int32)} {outs : Nat → List (Int32 × Nat)} {inp src idx sec outp lock amt inp' src' idx' sec' outp' lock' amt' : Nat → Int32} (hV : ∀ t, t < nT → (ins t).length ≤ 2 ∧ (outs t).length ≤ 2) (h : TM nT ins outs inp src idx sec outp lock amt) (h1 : ∀ t, t < nT → inp' t = inp t ∧ outp' t = outp t) (h2 : ∀ j, j < 2 * nT → src' j = src j ∧ idx' j = idx j ∧ sec' j = sec j ∧ lock' j = lock j ∧ amt' j = amt j) : TM nT ins outs inp' src' idx' sec' outp' lock' amt' := by
  intro t ht
  obtain ⟨a1, a2, a3, a4⟩ := h t ht
  obtain ⟨v1, v2⟩ := hV t ht
  refine ⟨by rw [(h1 t ht).1]; exact a1, fun k s i c hk => ?_, by rw [(h1 t ht).2]; exact a3, fun k lk a hk => ?_⟩
  · have hl := (List.getElem?_eq_some_iff.mp hk).1
    obtain ⟨b1, b2, b3, b4, b5⟩ := h2 (2 * t + k) (by omega)
    rw [b1, b2, b3]
    exact a2 k s i c hk
  · have hl := (List.getElem?_eq_some_iff.mp hk).1
    obtain ⟨b1, b2, b3, b4, b5⟩ := h2 (2 * t + k) (by omega)
    rw [b4, b5]
    exact a4 k lk a hk
theorem op_input {nT nB k : Nat} {ins : Nat → List (Nat × Nat × Int32)} {outs : Nat → List (Int32 × Nat)} {P I : Nat → List Nat} {sc : Nat → Nat} {p L : List Nat} {dI : List (Nat × Nat × Int32)} {dO : List (Int32 × Nat)} {pp pi O : List Nat} {M tips lacc aacc : Int64} {ids ic islot ifp iout isec ilock oc olock oamt fpc fpar fic fi bl h pph pih : Nat → Int32} {cp cf cb : Nat → Int64} {cs csel sq fo lam aam ph inp src idx sec outp lock amt mid mpc mpar hol held mbl mh : Nat → Int32} {mp mb : Nat → Int64} {ms msel mo mpool ord macc free coin worth : Nat → Int32} (x1 x2 x3 : Int32) (hR : RG nT nB k ins outs P I sc p L dI dO pp pi O M tips lacc aacc ids ic islot ifp iout isec ilock oc olock oamt fpc fpar fic fi bl h pph pih cp cf cb cs csel sq fo lam aam ph inp src idx sec outp lock amt mid mpc mpar hol held mbl mh mp mb ms msel mo mpool ord macc free coin worth) : ∃ (o : Int32) (dI' : List (Nat × Nat × Int32)) (ic' : Nat → Int32) (islot' : Nat → Int32) (ifp' : Nat → Int32) (iout' : Nat → Int32) (isec' : Nat → Int32) (ilock' : Nat → Int32) (inp' : Nat → Int32) (src' : Nat → Int32) (idx' : Nat → Int32) (sec' : Nat → Int32), m_bm_input (nI nT) (nI nB) ids h ic islot ifp iout isec ilock x1 x2 x3 = some (o, ic', islot', ifp', iout', isec', ilock') ∧ m_mm_input (nI nT) (nI nB) inp src idx sec x1 x2 x3 = some (o, inp', src', idx', sec') ∧ RG nT nB k ins outs P I sc p L dI' dO pp pi O M tips lacc aacc ids ic' islot' ifp' iout' isec' ilock' oc olock oamt fpc fpar fic fi bl h pph pih cp cf cb cs csel sq fo lam aam ph inp' src' idx' sec' outp lock amt mid mpc mpar hol held mbl mh mp mb ms msel mo mpool ord macc free coin worth := by
  have hR0 := hR
  obtain ⟨⟨hX, hY, hV, hS⟩, hPS, ⟨t1, t2, t3, t4, t5, t6, t7, t8, t9, t10⟩, hPL, hO, hF⟩ := hR
  have hT := hV.1
  have hB := hV.2.1
  rcases in_cases (inp := inp) (src := src) (idx := idx) (sec := sec) hT hB x1 x2 x3 with ⟨s, i, ho, rfl, rfl⟩ | ⟨hc, hm⟩
  · obtain ⟨e1, e2⟩ := in_yes hT hB ho
    by_cases full : dI.length = 2
    · refine ⟨0, dI, ic, islot, ifp, iout, isec, ilock, inp, src, idx, sec, ?_, ?_, hR0⟩
      · unfold m_bm_input
        rw [e1, mo_bs, mo_F (nI_nm1 (by have := (slt_lt hT hB ho).1; omega)), e2, mo_bs, mo_F (by decide)]
        have ef : m_bm_fingerprintOf ids h (nI s) = some (fpr ids h s) := by
          unfold m_bm_fingerprintOf fpr
          rcases ho with ⟨h1, h2⟩ | ⟨h1, h2, h3⟩
          · rw [if_pos (by omega), mo_F (show ¬ (100 : Int32) ≤ nI s from nI_ge (b := 100) (by omega) (by decide)), mo_rIn (by omega) (by decide)]
          · rw [if_neg (by omega), mo_T (show (100 : Int32) ≤ nI s from nI_le (a := 100) (by omega) (by omega)), s100 h1, mo_rIn (by omega) (by decide)]
        rw [ef, mo_bs]
        unfold m_tr_putInput
        rw [mo_rIn (by omega) (by decide), t4, full, mo_T (show nI 2 = (2 : Int32) from rfl), mo_bs]
        rfl
      · unfold m_mm_input
        have e40 : mo_rI inp 41 40 = fun (kk : Int32 → Option (Int32 × (Nat → Int32) × (Nat → Int32) × (Nat → Int32) × (Nat → Int32))) => kk (inp 40) := by
          funext kk
          exact mo_rIn (j := 40) (by decide) (by decide)
        have n1 : ¬ nI s < 0 := nI_pos (by have := (slt_lt hT hB ho).2.1; omega)
        have n2 : ¬ nI i < 0 := nI_pos (by have := (slt_lt hT hB ho).2.2; omega)
        rcases ho with ⟨h1, h2⟩ | ⟨h1, h2, h3⟩
        · have a : nI s < (100 : Int32) := nI_lt (b := 100) (by omega) (by decide)
          have d : ¬ nI nT ≤ nI s := nI_ge h1 (by omega)
          have c : ¬ (1 : Int32) < nI i := nI_nlt (b := i) (a := 1) (by omega) (by decide)
          simp only [mo_js, mo_T a, mo_F n1, mo_F d, mo_00, mo_10, mo_bT, mo_bF, mo_F n2, mo_F c, e40, t5, full]
          exact mo_T rfl
        · subst h3
          have a : ¬ nI s < (100 : Int32) := nI_nlt (b := 100) (by omega) (by omega)
          have b : ¬ nI nB ≤ nI s - 100 := by rw [s100 (by omega)]; exact nI_ge h2 (by omega)
          have d : nI nT ≤ nI s := nI_le (by omega) (by omega)
          have c : ¬ (0 : Int32) < nI 0 := by decide
          simp only [mo_js, mo_F a, mo_F b, mo_F n1, mo_T d, mo_00, mo_10, mo_bT, mo_bF, mo_F n2, mo_F c, e40, t5, full]
          exact mo_T rfl
    · have hlt : dI.length < 2 := by omega
      refine ⟨1, dI ++ [(s, i, x3)], upd ic nT (nI (dI.length + 1)), upd islot (2 * nT + dI.length) (nI (slt s i)), upd ifp (2 * nT + dI.length) (fpr ids h s), upd iout (2 * nT + dI.length) (nI i), upd isec (2 * nT + dI.length) x3, upd ilock (2 * nT + dI.length) (mx 7 x3), upd inp 40 (nI (dI.length + 1)), upd src (80 + dI.length) (nI s), upd idx (80 + dI.length) (nI i), upd sec (80 + dI.length) x3, ?_, ?_, ⟨?_, ?_, ?_, ?_⟩, hPS, ⟨t1, by rw [List.length_append]; simp; omega, t3, ?_, ?_, ?_, t7, ?_, t9, ?_⟩, hPL, hO, ?_⟩
      · unfold m_bm_input
        rw [e1, mo_bs, mo_F (nI_nm1 (by have := (slt_lt hT hB ho).1; omega)), e2, mo_bs, mo_F (by decide)]
        have ef : m_bm_fingerprintOf ids h (nI s) = some (fpr ids h s) := by
          unfold m_bm_fingerprintOf fpr
          rcases ho with ⟨h1, h2⟩ | ⟨h1, h2, h3⟩
          · rw [if_pos (by omega), mo_F (show ¬ (100 : Int32) ≤ nI s from nI_ge (b := 100) (by omega) (by decide)), mo_rIn (by omega) (by decide)]
          · rw [if_neg (by omega), mo_T (show (100 : Int32) ≤ nI s from nI_le (a := 100) (by omega) (by omega)), s100 h1, mo_rIn (by omega) (by decide)]
        rw [ef, mo_bs]
        unfold m_tr_putInput
        rw [mo_rIn (by omega) (by decide), t4, mo_F (show ¬ nI dI.length = 2 from N_eq (b := 2) full (by omega) (by decide)), mo_rIn (by omega) (by decide), t4, show nI nT * 2 + nI dI.length = nI (2 * nT + dI.length) from ix_c 2 nT dI.length, mo_wIn (by omega) (by decide), mo_wIn (by omega) (by decide), mo_wIn (by omega) (by decide), mo_wIn (by omega) (by decide), e_lockFor, mo_bs, mo_wIn (by omega) (by decide), mo_rIn (by omega) (by decide), mo_wIn (by omega) (by decide), t4, ← nI_succ, mo_bs]
        rfl
      · unfold m_mm_input
        have e40 : mo_rI inp 41 40 = fun (kk : Int32 → Option (Int32 × (Nat → Int32) × (Nat → Int32) × (Nat → Int32) × (Nat → Int32))) => kk (inp 40) := by
          funext kk
          exact mo_rIn (j := 40) (by decide) (by decide)
        have n1 : ¬ nI s < 0 := nI_pos (by have := (slt_lt hT hB ho).2.1; omega)
        have n2 : ¬ nI i < 0 := nI_pos (by have := (slt_lt hT hB ho).2.2; omega)
        have fin : mo_br (nI dI.length = 2) (some ((0 : Int32), inp, src, idx, sec)) (mo_wI src 82 (80 + nI dI.length) (nI s) fun g103 => mo_wI idx 82 (80 + nI dI.length) (nI i) fun g111 => mo_wI sec 82 (80 + nI dI.length) x3 fun g119 => mo_wI inp 41 40 (nI dI.length + 1) fun g130 => some ((1 : Int32), g130, g103, g111, g119)) = some (1, upd inp 40 (nI (dI.length + 1)), upd src (80 + dI.length) (nI s), upd idx (80 + dI.length) (nI i), upd sec (80 + dI.length) x3) := by
          rw [mo_F (show ¬ nI dI.length = 2 from N_eq (b := 2) full (by omega) (by decide)), show (80 : Int32) + nI dI.length = nI (80 + dI.length) from nI_add 80 dI.length, mo_wIn (by omega) (by decide), mo_wIn (by omega) (by decide), mo_wIn (by omega) (by decide), ← nI_succ]
          exact mo_wIn (j := 40) (by decide) (by decide)
        rcases ho with ⟨h1, h2⟩ | ⟨h1, h2, h3⟩
        · have a : nI s < (100 : Int32) := nI_lt (b := 100) (by omega) (by decide)
          have d : ¬ nI nT ≤ nI s := nI_ge h1 (by omega)
          have c : ¬ (1 : Int32) < nI i := nI_nlt (b := i) (a := 1) (by omega) (by decide)
          simp only [mo_js, mo_T a, mo_F n1, mo_F d, mo_00, mo_10, mo_bT, mo_bF, mo_F n2, mo_F c, e40, t5]
          exact fin
        · subst h3
          have a : ¬ nI s < (100 : Int32) := nI_nlt (b := 100) (by omega) (by omega)
          have b : ¬ nI nB ≤ nI s - 100 := by rw [s100 (by omega)]; exact nI_ge h2 (by omega)
          have d : nI nT ≤ nI s := nI_le (by omega) (by omega)
          have c : ¬ (0 : Int32) < nI 0 := by decide
          simp only [mo_js, mo_F a, mo_F b, mo_F n1, mo_T d, mo_00, mo_10, mo_bT, mo_bF, mo_F n2, mo_F c, e40, t5]
          exact fin
      · refine TX_up (fun t ht => ⟨(hV.2.2 t ht).1, (hV.2.2 t ht).2.1⟩) hX (fun t ht => ⟨pk_un (by omega), rfl⟩) (fun j hj => ⟨pk_un (by omega), pk_un (by omega), rfl, rfl⟩)
      · exact TM_up (fun t ht => ⟨(hV.2.2 t ht).1, (hV.2.2 t ht).2.1⟩) hY (fun t ht => ⟨pk_un (by omega), rfl⟩) (fun j hj => ⟨pk_un (by omega), pk_un (by omega), pk_un (by omega), rfl, rfl⟩)
      · exact hV
      · exact hS
      · rw [pk_us, List.length_append]; rfl
      · rw [pk_us, List.length_append]; rfl
      · exact t6
      · intro j s' i' c' hj
        rcases snoc_get hj with ⟨w1, w2⟩ | ⟨w1, w2⟩
        · obtain ⟨q1, q2, q3, q4, q5, q6, q7, q8, q9⟩ := t8 j s' i' c' w2
          rw [pk_un (by omega), pk_un (by omega), pk_un (by omega), pk_un (by omega), pk_un (by omega), pk_un (by omega), pk_un (by omega), pk_un (by omega)]
          exact ⟨q1, q2, q3, q4, q5, q6, q7, q8, q9⟩
        · subst w1
          cases w2
          rw [pk_us, pk_us, pk_us, pk_us, pk_us, pk_us, pk_us, pk_us]
          exact ⟨ho, rfl, rfl, rfl, rfl, rfl, rfl, rfl, rfl⟩
      · intro t h1 h2
        rw [pk_un (by omega)]
        exact t10 t h1 h2
      · exact hF
  · refine ⟨0, dI, ic, islot, ifp, iout, isec, ilock, inp, src, idx, sec, ?_, hm, hR0⟩
    unfold m_bm_input
    rcases hc with hc | ⟨r, hc1, hc2, hc3⟩
    · rw [hc, mo_bs, mo_T rfl]
    · rw [hc1, mo_bs, mo_F hc2, hc3, mo_bs, mo_T rfl]
theorem op_output {nT nB k : Nat} {ins : Nat → List (Nat × Nat × Int32)} {outs : Nat → List (Int32 × Nat)} {P I : Nat → List Nat} {sc : Nat → Nat} {p L : List Nat} {dI : List (Nat × Nat × Int32)} {dO : List (Int32 × Nat)} {pp pi O : List Nat} {M tips lacc aacc : Int64} {ids ic islot ifp iout isec ilock oc olock oamt fpc fpar fic fi bl h pph pih : Nat → Int32} {cp cf cb : Nat → Int64} {cs csel sq fo lam aam ph inp src idx sec outp lock amt mid mpc mpar hol held mbl mh : Nat → Int32} {mp mb : Nat → Int64} {ms msel mo mpool ord macc free coin worth : Nat → Int32} (x1 x2 : Int32) (hR : RG nT nB k ins outs P I sc p L dI dO pp pi O M tips lacc aacc ids ic islot ifp iout isec ilock oc olock oamt fpc fpar fic fi bl h pph pih cp cf cb cs csel sq fo lam aam ph inp src idx sec outp lock amt mid mpc mpar hol held mbl mh mp mb ms msel mo mpool ord macc free coin worth) : ∃ (o : Int32) (dO' : List (Int32 × Nat)) (oc' : Nat → Int32) (olock' : Nat → Int32) (oamt' : Nat → Int32) (outp' : Nat → Int32) (lock' : Nat → Int32) (amt' : Nat → Int32), m_bm_output (nI nT) oc olock oamt x1 x2 = some (o, oc', olock', oamt') ∧ m_mm_output outp lock amt x1 x2 = some (o, outp', lock', amt') ∧ RG nT nB k ins outs P I sc p L dI dO' pp pi O M tips lacc aacc ids ic islot ifp iout isec ilock oc' olock' oamt' fpc fpar fic fi bl h pph pih cp cf cb cs csel sq fo lam aam ph inp src idx sec outp' lock' amt' mid mpc mpar hol held mbl mh mp mb ms msel mo mpool ord macc free coin worth := by
  have hR0 := hR
  obtain ⟨⟨hX, hY, hV, hS⟩, hPS, ⟨t1, t2, t3, t4, t5, t6, t7, t8, t9, t10⟩, hPL, hO, hF⟩ := hR
  have hT := hV.1
  have hB := hV.2.1
  have no : ∀ (e1 : m_bm_output (nI nT) oc olock oamt x1 x2 = some (0, oc, olock, oamt)) (e2 : m_mm_output outp lock amt x1 x2 = some (0, outp, lock, amt)), ∃ (o : Int32) (dO' : List (Int32 × Nat)) (oc' : Nat → Int32) (olock' : Nat → Int32) (oamt' : Nat → Int32) (outp' : Nat → Int32) (lock' : Nat → Int32) (amt' : Nat → Int32), m_bm_output (nI nT) oc olock oamt x1 x2 = some (o, oc', olock', oamt') ∧ m_mm_output outp lock amt x1 x2 = some (o, outp', lock', amt') ∧ RG nT nB k ins outs P I sc p L dI dO' pp pi O M tips lacc aacc ids ic islot ifp iout isec ilock oc' olock' oamt' fpc fpar fic fi bl h pph pih cp cf cb cs csel sq fo lam aam ph inp src idx sec outp' lock' amt' mid mpc mpar hol held mbl mh mp mb ms msel mo mpool ord macc free coin worth := fun e1 e2 => ⟨0, dO, oc, olock, oamt, outp, lock, amt, e1, e2, hR0⟩
  by_cases n2 : x2 < 0
  · exact no (mo_T n2) (mo_T n2)
  obtain ⟨a, ha, rfl⟩ := nI_of n2
  by_cases c1 : a ≤ 1000
  · have l1 : nI a ≤ (1000 : Int32) := nI_le (b := 1000) c1 (by decide)
    have l2 : ¬ (1000 : Int32) < nI a := nI_nlt (a := 1000) c1 (by decide)
    by_cases full : dO.length = 2
    · refine no ?_ ?_
      · unfold m_bm_output m_tr_putOutput
        rw [mo_F n2, mo_T l1, e_lockFor, mo_bs, mo_rIn (by omega) (by decide), t6, full, mo_T (show nI 2 = (2 : Int32) from rfl), mo_bs]
        rfl
      · unfold m_mm_output
        rw [mo_F n2, mo_F l2, show mo_rI outp 41 40 = mo_rI outp 41 (nI 40) from rfl, mo_rIn (by decide) (by decide), t7, full]
        exact mo_T rfl
    · have hlt : dO.length < 2 := by omega
      refine ⟨1, dO ++ [(mx 7 x1, a)], upd oc nT (nI (dO.length + 1)), upd olock (2 * nT + dO.length) (mx 7 x1), upd oamt (2 * nT + dO.length) (nI a), upd outp 40 (nI (dO.length + 1)), upd lock (80 + dO.length) (mx 7 x1), upd amt (80 + dO.length) (nI a), ?_, ?_, ⟨?_, ?_, hV, hS⟩, hPS, ⟨t1, t2, by rw [List.length_append]; simp; omega, t4, t5, ?_, ?_, t8, ?_, ?_⟩, hPL, hO, ?_⟩
      · unfold m_bm_output m_tr_putOutput
        rw [mo_F n2, mo_T l1, e_lockFor, mo_bs, mo_rIn (by omega) (by decide), t6, mo_F (show ¬ nI dO.length = 2 from N_eq (b := 2) full (by omega) (by decide)), mo_rIn (by omega) (by decide), t6, show nI nT * 2 + nI dO.length = nI (2 * nT + dO.length) from ix_c 2 nT dO.length, mo_wIn (by omega) (by decide), mo_wIn (by omega) (by decide), mo_rIn (by omega) (by decide), mo_wIn (by omega) (by decide), t6, ← nI_succ, mo_bs]
        rfl
      · unfold m_mm_output
        rw [mo_F n2, mo_F l2, show mo_rI outp 41 40 = mo_rI outp 41 (nI 40) from rfl, mo_rIn (by decide) (by decide), t7, mo_F (show ¬ nI dO.length = 2 from N_eq (b := 2) full (by omega) (by decide)), mo_rIn (by decide) (by decide), t7, e_mmix, mo_bs, show (80 : Int32) + nI dO.length = nI (80 + dO.length) from nI_add 80 dO.length, mo_wIn (by omega) (by decide), mo_wIn (by omega) (by decide), mo_rIn (by decide) (by decide), t7, ← nI_succ]
        exact mo_wIn (j := 40) (by decide) (by decide)
      · exact TX_up (fun t ht => ⟨(hV.2.2 t ht).1, (hV.2.2 t ht).2.1⟩) hX (fun t ht => ⟨rfl, pk_un (by omega)⟩) (fun j hj => ⟨rfl, rfl, pk_un (by omega), pk_un (by omega)⟩)
      · exact TM_up (fun t ht => ⟨(hV.2.2 t ht).1, (hV.2.2 t ht).2.1⟩) hY (fun t ht => ⟨rfl, pk_un (by omega)⟩) (fun j hj => ⟨rfl, rfl, rfl, pk_un (by omega), pk_un (by omega)⟩)
      · rw [pk_us, List.length_append]; rfl
      · rw [pk_us, List.length_append]; rfl
      · intro j lk' a' hj
        rcases snoc_get hj with ⟨w1, w2⟩ | ⟨w1, w2⟩
        · obtain ⟨q1, q2, q3, q4, q5⟩ := t9 j lk' a' w2
          rw [pk_un (by omega), pk_un (by omega), pk_un (by omega), pk_un (by omega)]
          exact ⟨q1, q2, q3, q4, q5⟩
        · subst w1
          cases w2
          rw [pk_us, pk_us, pk_us, pk_us]
          exact ⟨c1, rfl, rfl, rfl, rfl⟩
      · intro t h1 h2
        rw [pk_un (by omega)]
        exact t10 t h1 h2
      · obtain ⟨hB4, hBm, hI, hIm, hIt, hlk, hh⟩ := hS
        exact FR_ag (Nat.le_refl _) (Nat.le_refl _) hB hV hIt ⟨fun t ht => ⟨rfl, rfl⟩, fun j hj => pk_un (by omega), fun b hb => ⟨rfl, rfl⟩⟩ (fun _ _ => rfl) (fun _ _ => rfl) (fun j hj => pk_un (by omega)) hF
  · refine no ?_ ?_
    · unfold m_bm_output
      rw [mo_F n2, mo_F (show ¬ nI a ≤ (1000 : Int32) from nI_ge (a := 1000) (by omega) ha)]
    · unfold m_mm_output
      rw [mo_F n2, mo_T (show (1000 : Int32) < nI a from nI_lt (a := 1000) (by omega) ha)]
