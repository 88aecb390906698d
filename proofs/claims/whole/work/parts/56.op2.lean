/-! a transaction is finished -/
def xI (ids h : Nat → Int32) (x : Int32) (q : Nat × Nat × Int32) : Int32 := mx (mx (mx x (fpr ids h q.1)) (nI q.2.1)) q.2.2
def xO (x : Int32) (q : Int32 × Nat) : Int32 := mx (mx x q.1) (nI q.2)
theorem fold_take {α β : Type} (f : β → α → β) (b : β) (l : List α) {j : Nat} (hj : j < l.length) : (l.take (j + 1)).foldl f b = f ((l.take j).foldl f b) l[j] := by
  rw [(List.take_append_getElem hj).symm, List.foldl_append]
  rfl
theorem e_draftId {nT nB : Nat} {dI : List (Nat × Nat × Int32)} {dO : List (Int32 × Nat)} {ids ic islot ifp iout isec ilock oc olock oamt h mid inp src idx sec outp lock amt : Nat → Int32} (hT : nT < 40) (hD : TD nT nB dI dO ids ic islot ifp iout isec ilock oc olock oamt h mid inp src idx sec outp lock amt) : m_tr_draftId (nI nT) ic ifp iout isec oc olock oamt = some (dO.foldl xO (dI.foldl (xI ids h) 11)) := by
  obtain ⟨t1, t2, t3, t4, t5, t6, t7, t8, t9, t10⟩ := hD
  have e2 : nI nT * 2 = nI (2 * nT) := by rw [show (2 : Int32) = nI 2 from rfl, pk_mul, Nat.mul_comm]
  have L1 : mo_lp (m_tr_draftId_L12 (nI nT) ic ifp iout isec) 1000 (11, nI (2 * nT)) = some (dI.foldl (xI ids h) 11) := by
    refine so_eq (lp_ix dI.length (fun j z => z = ((dI.take j).foldl (xI ids h) 11, nI (2 * nT + j))) (fun o => o = dI.foldl (xI ids h) 11) ?_ 1000 0 (11, nI (2 * nT)) (Nat.zero_le _) rfl (by omega))
    intro back j z hj hz ih
    subst hz
    unfold m_tr_draftId_L12
    dsimp only
    rw [mo_rIn (by omega) (by decide), t4, e2, nI_add]
    by_cases e : j = dI.length
    · rw [mo_T (nI_le (by omega) (by omega)), e, List.take_length]
      exact ⟨_, rfl, rfl⟩
    · have hj2 : j < dI.length := by omega
      obtain ⟨q1, q2, q3, q4, q5, q6, q7, q8, q9⟩ := t8 j dI[j].1 dI[j].2.1 dI[j].2.2 (List.getElem?_eq_getElem hj2)
      rw [mo_F (nI_ge (by omega) (by omega)), mo_rIn (by omega) (by decide), e_mix, mo_bs, mo_rIn (by omega) (by decide), e_mix, mo_bs, mo_rIn (by omega) (by decide), e_mix, mo_bs, q3, q4, q5, ← nI_succ]
      exact ih _ hj2 (by rw [fold_take _ _ _ hj2]; rfl)
  have L2 : ∀ x, mo_lp (m_tr_draftId_L72 (nI nT) oc olock oamt) 1000 (x, nI (2 * nT)) = some (dO.foldl xO x) := by
    intro x
    refine so_eq (lp_ix dO.length (fun j z => z = ((dO.take j).foldl xO x, nI (2 * nT + j))) (fun o => o = dO.foldl xO x) ?_ 1000 0 (x, nI (2 * nT)) (Nat.zero_le _) rfl (by omega))
    intro back j z hj hz ih
    subst hz
    unfold m_tr_draftId_L72
    dsimp only
    rw [mo_rIn (by omega) (by decide), t6, e2, nI_add]
    by_cases e : j = dO.length
    · rw [mo_T (nI_le (by omega) (by omega)), e, List.take_length]
      exact ⟨_, rfl, rfl⟩
    · have hj2 : j < dO.length := by omega
      obtain ⟨q1, q2, q3, q4, q5⟩ := t9 j dO[j].1 dO[j].2 (List.getElem?_eq_getElem hj2)
      rw [mo_F (nI_ge (by omega) (by omega)), mo_rIn (by omega) (by decide), e_mix, mo_bs, mo_rIn (by omega) (by decide), e_mix, mo_bs, q2, q3, ← nI_succ]
      exact ih _ hj2 (by rw [fold_take _ _ _ hj2]; rfl)
  unfold m_tr_draftId
  rw [e2, L1, mo_bs, L2, mo_bs]
theorem e_txL77 {nT nB : Nat} {dI : List (Nat × Nat × Int32)} {dO : List (Int32 × Nat)} {ids ic islot ifp iout isec ilock oc olock oamt h mid inp src idx sec outp lock amt mh g : Nat → Int32} (hT : nT < 40) (hB : nB ≤ 60) (hD : TD nT nB dI dO ids ic islot ifp iout isec ilock oc olock oamt h mid inp src idx sec outp lock amt) (hh : ∀ y, y < nB → mh y = h y) (hg : g nT = nI dI.length) : ∃ src' idx' sec' : Nat → Int32, mo_lp (m_mm_transaction_L77 (nI nT) mid mh g) 1000 (11, 0, src, idx, sec) = some (dI.foldl (xI ids h) 11, src', idx', sec') ∧ (∀ j, j < 2 * nT → src' j = src j ∧ idx' j = idx j ∧ sec' j = sec j) ∧ ∀ j s i c, dI[j]? = some (s, i, c) → src' (2 * nT + j) = nI s ∧ idx' (2 * nT + j) = nI i ∧ sec' (2 * nT + j) = c := by
  obtain ⟨t1, t2, t3, t4, t5, t6, t7, t8, t9, t10⟩ := hD
  obtain ⟨o, h1, src', idx', sec', rfl, h2, h3⟩ := lp_ix (step := m_mm_transaction_L77 (nI nT) mid mh g) dI.length (fun j z => ∃ s1 s2 s3 : Nat → Int32, z = ((dI.take j).foldl (xI ids h) 11, nI j, s1, s2, s3) ∧ (∀ i, i < 2 * nT → s1 i = src i ∧ s2 i = idx i ∧ s3 i = sec i) ∧ (∀ i, 80 ≤ i → s1 i = src i ∧ s2 i = idx i ∧ s3 i = sec i) ∧ ∀ q s i c, q < j → dI[q]? = some (s, i, c) → s1 (2 * nT + q) = nI s ∧ s2 (2 * nT + q) = nI i ∧ s3 (2 * nT + q) = c) (fun o => ∃ s1 s2 s3 : Nat → Int32, o = (dI.foldl (xI ids h) 11, s1, s2, s3) ∧ (∀ i, i < 2 * nT → s1 i = src i ∧ s2 i = idx i ∧ s3 i = sec i) ∧ ∀ q s i c, dI[q]? = some (s, i, c) → s1 (2 * nT + q) = nI s ∧ s2 (2 * nT + q) = nI i ∧ s3 (2 * nT + q) = c) (by
    intro back j z hj hz ih
    obtain ⟨s1, s2, s3, rfl, a1, a2, a3⟩ := hz
    unfold m_mm_transaction_L77
    dsimp only
    rw [mo_rIn (by omega) (by decide), hg]
    by_cases e : j = dI.length
    · rw [mo_T (nI_le (by omega) (by omega)), e, List.take_length]
      exact ⟨_, rfl, s1, s2, s3, rfl, a1, fun q s i c hq => a3 q s i c (by have := (List.getElem?_eq_some_iff.mp hq).1; omega) hq⟩
    · have hj2 : j < dI.length := by omega
      obtain ⟨q1, q2, q3, q4, q5, q6, q7, q8, q9⟩ := t8 j dI[j].1 dI[j].2.1 dI[j].2.2 (List.getElem?_eq_getElem hj2)
      obtain ⟨b1, b2, b3⟩ := a2 (80 + j) (by omega)
      have e80 : (80 : Int32) + nI j = nI (80 + j) := nI_add 80 j
      have eT : (2 : Int32) * nI nT + nI j = nI (2 * nT + j) := ix_m 2 nT j
      rw [mo_F (nI_ge hj2 (by omega)), e80, eT, mo_rIn (by omega) (by decide), mo_wIn (by omega) (by decide), mo_rIn (by omega) (by decide), mo_wIn (by omega) (by decide), mo_rIn (by omega) (by decide), mo_wIn (by omega) (by decide), mo_rIn (by omega) (by decide), pk_un (by omega), b1, b2, b3, q7, q8, q9, mo_js]
      have hs := slt_lt (by omega) hB q1
      have fin : ∀ v, v = fpr ids h dI[j].1 → ∃ o, (mo_bd (m_mm_mix ((dI.take j).foldl (xI ids h) 11) v) fun r183 => mo_rI (upd s2 (2 * nT + j) (nI dI[j].2.1)) 82 (nI (80 + j)) fun v196 => mo_bd (m_mm_mix r183 v196) fun r197 => mo_rI (upd s3 (2 * nT + j) dI[j].2.2) 82 (nI (80 + j)) fun v208 => mo_bd (m_mm_mix r197 v208) fun r209 => back (r209, nI j + 1, upd s1 (2 * nT + j) (nI dI[j].1), upd s2 (2 * nT + j) (nI dI[j].2.1), upd s3 (2 * nT + j) dI[j].2.2)) = some o ∧ ∃ s1 s2 s3 : Nat → Int32, o = (dI.foldl (xI ids h) 11, s1, s2, s3) ∧ (∀ i, i < 2 * nT → s1 i = src i ∧ s2 i = idx i ∧ s3 i = sec i) ∧ ∀ q s i c, dI[q]? = some (s, i, c) → s1 (2 * nT + q) = nI s ∧ s2 (2 * nT + q) = nI i ∧ s3 (2 * nT + q) = c := by
        intro v hv
        rw [e_mmix, mo_bs, mo_rIn (by omega) (by decide), pk_un (by omega), b2, q8, e_mmix, mo_bs, mo_rIn (by omega) (by decide), pk_un (by omega), b3, q9, e_mmix, mo_bs, hv, ← nI_succ]
        refine ih _ hj2 ⟨_, _, _, by rw [fold_take _ _ _ hj2]; rfl, fun i hi => ?_, fun i hi => ?_, fun q s i c hq hqs => ?_⟩
        · rw [pk_un (by omega), pk_un (by omega), pk_un (by omega)]; exact a1 i hi
        · rw [pk_un (by omega), pk_un (by omega), pk_un (by omega)]; exact a2 i hi
        · by_cases eq : q = j
          · subst eq
            rw [List.getElem?_eq_getElem hj2] at hqs
            have hqs := Option.some.inj hqs
            rw [pk_us, pk_us, pk_us, hqs]
            exact ⟨rfl, rfl, rfl⟩
          · rw [pk_un (by omega), pk_un (by omega), pk_un (by omega)]
            exact a3 q s i c (by omega) hqs
      rcases q1 with ⟨w1, w2⟩ | ⟨w1, w2, w3⟩
      · rw [mo_F (show ¬ (100 : Int32) ≤ nI dI[j].1 from nI_ge (b := 100) (by omega) (by decide)), mo_rIn (by omega) (by decide)]
        refine fin _ ?_
        unfold fpr
        rw [if_pos (by omega), t1 _ w1]
      · rw [mo_T (show (100 : Int32) ≤ nI dI[j].1 from nI_le (a := 100) (by omega) (by omega)), s100 w1, mo_rIn (by omega) (by decide)]
        refine fin _ ?_
        unfold fpr
        rw [if_neg (by omega), hh _ w2]) 1000 0 (11, 0, src, idx, sec) (Nat.zero_le _) ⟨src, idx, sec, rfl, fun _ _ => ⟨rfl, rfl, rfl⟩, fun _ _ => ⟨rfl, rfl, rfl⟩, fun q s i c hq => by omega⟩ (by omega)
  exact ⟨src', idx', sec', h1, h2, h3⟩
theorem e_txL221 {nT nB : Nat} {dI : List (Nat × Nat × Int32)} {dO : List (Int32 × Nat)} {ids ic islot ifp iout isec ilock oc olock oamt h mid inp src idx sec outp lock amt g : Nat → Int32} (x : Int32) (hT : nT < 40) (hD : TD nT nB dI dO ids ic islot ifp iout isec ilock oc olock oamt h mid inp src idx sec outp lock amt) (hg : g nT = nI dO.length) : ∃ lock' amt' : Nat → Int32, mo_lp (m_mm_transaction_L221 (nI nT) g) 1000 (x, 0, lock, amt) = some (dO.foldl xO x, lock', amt') ∧ (∀ j, j < 2 * nT → lock' j = lock j ∧ amt' j = amt j) ∧ ∀ j lk a, dO[j]? = some (lk, a) → lock' (2 * nT + j) = lk ∧ amt' (2 * nT + j) = nI a := by
  obtain ⟨t1, t2, t3, t4, t5, t6, t7, t8, t9, t10⟩ := hD
  obtain ⟨o, h1, lock', amt', rfl, h2, h3⟩ := lp_ix (step := m_mm_transaction_L221 (nI nT) g) dO.length (fun j z => ∃ s1 s2 : Nat → Int32, z = ((dO.take j).foldl xO x, nI j, s1, s2) ∧ (∀ i, i < 2 * nT → s1 i = lock i ∧ s2 i = amt i) ∧ (∀ i, 80 ≤ i → s1 i = lock i ∧ s2 i = amt i) ∧ ∀ q lk a, q < j → dO[q]? = some (lk, a) → s1 (2 * nT + q) = lk ∧ s2 (2 * nT + q) = nI a) (fun o => ∃ s1 s2 : Nat → Int32, o = (dO.foldl xO x, s1, s2) ∧ (∀ i, i < 2 * nT → s1 i = lock i ∧ s2 i = amt i) ∧ ∀ q lk a, dO[q]? = some (lk, a) → s1 (2 * nT + q) = lk ∧ s2 (2 * nT + q) = nI a) (by
    intro back j z hj hz ih
    obtain ⟨s1, s2, rfl, a1, a2, a3⟩ := hz
    unfold m_mm_transaction_L221
    dsimp only
    rw [mo_rIn (by omega) (by decide), hg]
    by_cases e : j = dO.length
    · rw [mo_T (nI_le (by omega) (by omega)), e, List.take_length]
      exact ⟨_, rfl, s1, s2, rfl, a1, fun q lk a hq => a3 q lk a (by have := (List.getElem?_eq_some_iff.mp hq).1; omega) hq⟩
    · have hj2 : j < dO.length := by omega
      obtain ⟨q1, q2, q3, q4, q5⟩ := t9 j dO[j].1 dO[j].2 (List.getElem?_eq_getElem hj2)
      obtain ⟨b1, b2⟩ := a2 (80 + j) (by omega)
      have e80 : (80 : Int32) + nI j = nI (80 + j) := nI_add 80 j
      have eT : (2 : Int32) * nI nT + nI j = nI (2 * nT + j) := ix_m 2 nT j
      rw [mo_F (nI_ge hj2 (by omega)), e80, eT, mo_rIn (by omega) (by decide), mo_wIn (by omega) (by decide), mo_rIn (by omega) (by decide), mo_wIn (by omega) (by decide), mo_rIn (by omega) (by decide), pk_un (by omega), e_mmix, mo_bs, mo_rIn (by omega) (by decide), pk_un (by omega), e_mmix, mo_bs, b1, b2, q4, q5, ← nI_succ]
      refine ih _ hj2 ⟨_, _, by rw [fold_take _ _ _ hj2]; rfl, fun i hi => ?_, fun i hi => ?_, fun q lk a hq hqs => ?_⟩
      · rw [pk_un (by omega), pk_un (by omega)]; exact a1 i hi
      · rw [pk_un (by omega), pk_un (by omega)]; exact a2 i hi
      · by_cases eq : q = j
        · subst eq
          rw [List.getElem?_eq_getElem hj2] at hqs
          have hqs := Option.some.inj hqs
          rw [pk_us, pk_us, hqs]
          exact ⟨rfl, rfl⟩
        · rw [pk_un (by omega), pk_un (by omega)]
          exact a3 q lk a (by omega) hqs) 1000 0 (x, 0, lock, amt) (Nat.zero_le _) ⟨lock, amt, rfl, fun _ _ => ⟨rfl, rfl⟩, fun _ _ => ⟨rfl, rfl⟩, fun q lk a hq => by omega⟩ (by omega)
  exact ⟨lock', amt', h1, h2, h3⟩
theorem op_transaction {nT nB k : Nat} {ins : Nat → List (Nat × Nat × Int32)} {outs : Nat → List (Int32 × Nat)} {P I : Nat → List Nat} {sc : Nat → Nat} {p L : List Nat} {dI : List (Nat × Nat × Int32)} {dO : List (Int32 × Nat)} {pp pi O : List Nat} {M tips lacc aacc : Int64} {ids ic islot ifp iout isec ilock oc olock oamt fpc fpar fic fi bl h pph pih : Nat → Int32} {cp cf cb : Nat → Int64} {cs csel sq fo lam aam ph inp src idx sec outp lock amt mid mpc mpar hol held mbl mh : Nat → Int32} {mp mb : Nat → Int64} {ms msel mo mpool ord macc free coin worth : Nat → Int32} (hR : RG nT nB k ins outs P I sc p L dI dO pp pi O M tips lacc aacc ids ic islot ifp iout isec ilock oc olock oamt fpc fpar fic fi bl h pph pih cp cf cb cs csel sq fo lam aam ph inp src idx sec outp lock amt mid mpc mpar hol held mbl mh mp mb ms msel mo mpool ord macc free coin worth) : ∃ (o : Int32) (nT' : Nat) (ins' : Nat → List (Nat × Nat × Int32)) (outs' : Nat → List (Int32 × Nat)) (dI' : List (Nat × Nat × Int32)) (dO' : List (Int32 × Nat)) (ids' : Nat → Int32) (inp' : Nat → Int32) (outp' : Nat → Int32) (src' : Nat → Int32) (idx' : Nat → Int32) (sec' : Nat → Int32) (mid' : Nat → Int32) (lock' : Nat → Int32) (amt' : Nat → Int32), m_bm_transaction (nI nT) ic oc ifp iout isec olock oamt ids = some (o, nI nT', ids') ∧ m_mm_transaction (nI nT) inp outp src idx sec mid mh lock amt = some (o, nI nT', inp', outp', src', idx', sec', mid', lock', amt') ∧ RG nT' nB k ins' outs' P I sc p L dI' dO' pp pi O M tips lacc aacc ids' ic islot ifp iout isec ilock oc olock oamt fpc fpar fic fi bl h pph pih cp cf cb cs csel sq fo lam aam ph inp' src' idx' sec' outp' lock' amt' mid' mpc mpar hol held mbl mh mp mb ms msel mo mpool ord macc free coin worth := by
  have hR0 := hR
  obtain ⟨⟨hX, hY, hV, hS⟩, hPS, hD, hPL, hO, hF⟩ := hR
  have hD0 := hD
  obtain ⟨t1, t2, t3, t4, t5, t6, t7, t8, t9, t10⟩ := hD
  obtain ⟨hB4, hBm, hI, hIm, hIt, hlk, hh⟩ := hS
  have hT := hV.1
  have hB := hV.2.1
  have r40 : ∀ {γ : Type} {f : Nat → Int32} {kk : Int32 → Option γ}, mo_rI f 41 40 kk = kk (f 40) := fun {γ f kk} => mo_rIn (j := 40) (by decide) (by decide)
  have w40 : ∀ {γ : Type} {f : Nat → Int32} {v : Int32} {kk : (Nat → Int32) → Option γ}, mo_wI f 41 40 v kk = kk (upd f 40 v) := fun {γ f v kk} => mo_wIn (j := 40) (by decide) (by decide)
  by_cases c : nT = 40 ∨ dI.length = 0 ∨ dO.length = 0
  · refine ⟨-1, nT, ins, outs, dI, dO, ids, inp, outp, src, idx, sec, mid, lock, amt, ?_, ?_, hR0⟩
    · unfold m_bm_transaction m_tr_finish
      by_cases c1 : nT = 40
      · rw [mo_T (show nI nT = (40 : Int32) by rw [c1]; rfl), mo_bs]
      · rw [mo_F (show ¬ nI nT = (40 : Int32) from N_eq (b := 40) c1 (by omega) (by decide)), mo_rIn (by omega) (by decide), t4]
        by_cases c2 : dI.length = 0
        · rw [mo_T (show nI dI.length = 0 by rw [c2]; rfl), mo_bs]
        · rw [mo_F (nI_ne0 (by omega) (by omega)), mo_rIn (by omega) (by decide), t6, mo_T (show nI dO.length = 0 by rw [show dO.length = 0 by omega]; rfl), mo_bs]
    · unfold m_mm_transaction
      rw [r40, t5]
      by_cases c2 : dI.length = 0
      · rw [mo_T (show nI dI.length = 0 by rw [c2]; rfl)]
      · rw [mo_F (nI_ne0 (by omega) (by omega)), r40, t7]
        by_cases c3 : dO.length = 0
        · rw [mo_T (show nI dO.length = 0 by rw [c3]; rfl)]
        · rw [mo_F (nI_ne0 (by omega) (by omega)), mo_T (show nI nT = (40 : Int32) by rw [show nT = 40 by omega]; rfl)]
  · have c1 : nT < 40 := by omega
    have c2 : 0 < dI.length := by omega
    have c3 : 0 < dO.length := by omega
    obtain ⟨src', idx', sec', E1, E2, E3⟩ := e_txL77 (g := upd inp nT (nI dI.length)) (mh := mh) c1 hB hD0 hh pk_us
    obtain ⟨lock', amt', E4, E5, E6⟩ := e_txL221 (g := upd outp nT (nI dO.length)) (dI.foldl (xI ids h) 11) c1 hD0 pk_us
    have hins : ∀ t, t < nT → (fun t => if t = nT then dI else ins t) t = ins t := fun t ht => if_neg (by omega)
    have hout : ∀ t, t < nT → (fun t => if t = nT then dO else outs t) t = outs t := fun t ht => if_neg (by omega)
    refine ⟨nI nT, nT + 1, fun t => if t = nT then dI else ins t, fun t => if t = nT then dO else outs t, [], [], upd ids nT (dO.foldl xO (dI.foldl (xI ids h) 11)), upd (upd inp nT (nI dI.length)) 40 0, upd (upd outp nT (nI dO.length)) 40 0, src', idx', sec', upd mid nT (dO.foldl xO (dI.foldl (xI ids h) 11)), lock', amt', ?_, ?_, ⟨?_, ?_, ?_, hB4, hBm, hI, hIm, fun b hb t ht => ?_, hlk, hh⟩, hPS, ⟨?_, ?_, ?_, ?_, ?_, ?_, ?_, ?_, ?_, ?_⟩, ?_, hO, ?_⟩
    · unfold m_bm_transaction m_tr_finish
      rw [mo_F (show ¬ nI nT = (40 : Int32) from N_eq (b := 40) (by omega) (by omega) (by decide)), mo_rIn (by omega) (by decide), t4, mo_F (nI_ne0 c2 (by omega)), mo_rIn (by omega) (by decide), t6, mo_F (nI_ne0 c3 (by omega)), e_draftId c1 hD0, mo_bs, mo_wIn (by omega) (by decide), mo_bs, ← nI_succ, nI_pred]
    · unfold m_mm_transaction
      rw [r40, t5, mo_F (nI_ne0 c2 (by omega)), r40, t7, mo_F (nI_ne0 c3 (by omega)), mo_F (show ¬ nI nT = (40 : Int32) from N_eq (b := 40) (by omega) (by omega) (by decide)), r40, t5, mo_wIn (by omega) (by decide), r40, t7, mo_wIn (by omega) (by decide), E1, mo_bs]
      dsimp only
      rw [E4, mo_bs]
      dsimp only
      rw [mo_wIn (by omega) (by decide), w40, w40, ← nI_succ]
    · intro t ht
      by_cases e : t = nT
      · subst e
        dsimp only
        rw [if_pos rfl, if_pos rfl]
        exact ⟨t4, fun k s i c hk => ⟨(t8 k s i c hk).2.1, (t8 k s i c hk).2.2.2.2.2.1⟩, t6, fun k lk a hk => ⟨(t9 k lk a hk).2.1, (t9 k lk a hk).2.2.1⟩⟩
      · dsimp only
        rw [if_neg e, if_neg e]
        exact hX t (by omega)
    · have hY' : TM nT ins outs (upd (upd inp nT (nI dI.length)) 40 0) src' idx' sec' (upd (upd outp nT (nI dO.length)) 40 0) lock' amt' := TM_up (fun t ht => ⟨(hV.2.2 t ht).1, (hV.2.2 t ht).2.1⟩) hY (fun t ht => ⟨by rw [pk_un (by omega), pk_un (by omega)], by rw [pk_un (by omega), pk_un (by omega)]⟩) (fun j hj => ⟨(E2 j hj).1, (E2 j hj).2.1, (E2 j hj).2.2, (E5 j hj).1, (E5 j hj).2⟩)
      intro t ht
      by_cases e : t = nT
      · subst e
        dsimp only
        rw [if_pos rfl, if_pos rfl, pk_un (by omega), pk_us, pk_un (by omega), pk_us]
        exact ⟨rfl, E3, rfl, E6⟩
      · dsimp only
        rw [if_neg e, if_neg e]
        exact hY' t (by omega)
    · refine ⟨by omega, hB, fun t ht => ?_⟩
      have mono : ∀ s i, okI nT nB s i → okI (nT + 1) nB s i := fun s i hq => hq.imp (fun w => ⟨by omega, w.2⟩) id
      by_cases e : t = nT
      · subst e
        dsimp only
        rw [if_pos rfl, if_pos rfl]
        exact ⟨t2, t3, fun k s i c hk => mono s i (t8 k s i c hk).1, fun k lk a hk => (t9 k lk a hk).1⟩
      · dsimp only
        rw [if_neg e, if_neg e]
        obtain ⟨v1, v2, v3, v4⟩ := hV.2.2 t (by omega)
        exact ⟨v1, v2, fun k s i c hk => mono s i (v3 k s i c hk), v4⟩
    · have := hIt b hb t ht
      omega
    · intro t ht
      by_cases e : t = nT
      · rw [e, pk_us, pk_us]
      · rw [pk_un e, pk_un e]
        exact t1 t (by omega)
    · exact Nat.zero_le _
    · exact Nat.zero_le _
    · exact (t10 (nT + 1) (by omega) (by omega)).1
    · exact pk_us
    · exact (t10 (nT + 1) (by omega) (by omega)).2
    · exact pk_us
    · intro j s i c hj; cases hj
    · intro j lk a hj; cases hj
    · intro t h1 h2
      exact t10 t (by omega) h2
    · obtain ⟨p1, p2, p3, p4, p5⟩ := hPL
      exact ⟨p1, p2, p3, fun x hx => by have := p4 x hx; omega, p5⟩
    · exact FR_ag (Nat.le_succ _) (Nat.le_refl _) hB hV hIt ⟨fun t ht => ⟨hins t ht, hout t ht⟩, fun j hj => rfl, fun b hb => ⟨rfl, rfl⟩⟩ (fun _ _ => rfl) (fun _ _ => rfl) (fun j hj => (E5 j hj).2) hF
