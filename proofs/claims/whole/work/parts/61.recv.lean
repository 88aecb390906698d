/-! receive -/
theorem e_isOrphan {O : List Nat} {mo : Nat → Int32} {b : Nat} (h : hL mo O) (hl : O.length ≤ 4) (hO : ∀ y ∈ O, y < 1000) (hb : b < 1000) : m_mm_isOrphan (nI O.length) mo (nI b) = some (bI (pB (b ∈ O))) := by
  have key : mo_lp (m_mm_isOrphan_L4 (nI O.length) mo (nI b)) 1000 (0, 0) = some (bI (pB (b ∈ O))) := by
    refine so_eq (lp_ix O.length (fun j z => z = (bI (pB (b ∈ O.take j)), nI j)) (fun o => o = bI (pB (b ∈ O))) ?_ 1000 0 (0, 0) (Nat.zero_le _) (by rw [pB_f (by simp)]; rfl) (by omega))
    intro back j z hj hz ih
    subst hz
    unfold m_mm_isOrphan_L4
    dsimp only
    by_cases e : j = O.length
    · rw [mo_T (nI_le (by omega) (by omega)), e, List.take_length]
      exact ⟨_, rfl, rfl⟩
    · have hj2 : j < O.length := by omega
      have hy := hO _ (List.getElem_mem hj2)
      rw [mo_F (nI_ge hj2 (by omega)), mo_js, mo_js]
      by_cases q : b ∈ O.take j
      · rw [pB_t q, mo_F (by decide), ← nI_succ]
        exact ih _ hj2 (by rw [pB_t ((mem_take hj2).mpr (Or.inl q))]; rfl)
      · rw [pB_f q, mo_T bI_f, mo_rIn (by omega) (by decide), h j _ (List.getElem?_eq_getElem hj2)]
        by_cases w : O[j] = b
        · rw [mo_T (by rw [w]), ← nI_succ]
          exact ih _ hj2 (by rw [pB_t ((mem_take hj2).mpr (Or.inr w.symm))]; rfl)
        · rw [mo_F (N_eq w (by omega) (by omega)), ← nI_succ]
          exact ih _ hj2 (by rw [pB_f (fun z => ((mem_take hj2).mp z).elim q (fun z => w z.symm))]; rfl)
  unfold m_mm_isOrphan
  rw [key, mo_bs, z_bI]
theorem e_dgHas (M : Int64) {b : Nat} (hb : b < 64) : m_dg_has M (nI b) = some (bI (tb M b)) := by
  unfold m_dg_has
  rw [e_holds' M hb, mo_bs, z_bI]
theorem e_keep {nB b : Nat} {M : Int64} {O : List Nat} {fo mo : Nat → Int32} (hB : nB ≤ 60) (hO : OR nB M O fo mo) (hb : b < nB) (hbM : tb M b = false) (hbO : b ∉ O) : ∃ (O' : List Nat) (fo' mo' : Nat → Int32), m_bm_keepOrphan (nI O.length) fo (nI b) = some (nI O'.length, fo') ∧ OR nB M O' fo' mo' ∧ ∀ {γ : Type} (kk : Int32 → (Nat → Int32) → Option γ), (mo_jn (fun (y71_v_orphans : Int32) (y71_f_orphan : Nat → Int32) => mo_wI y71_f_orphan 4 y71_v_orphans (nI b) fun g80 => kk (y71_v_orphans + 1) g80) fun j71 => mo_br (nI O.length = 4) (mo_bd (m_mm_removeOrphan (nI O.length) mo 0) fun (r68_0, r68_1) => j71 r68_0 r68_1) (j71 (nI O.length) mo)) = kk (nI O'.length) mo' := by
  obtain ⟨o1, o2, o3, o4, o5⟩ := hO
  have hO60 : ∀ y ∈ O, y < 1000 := fun y hy => by have := (o4 y hy).1; omega
  by_cases c : O.length = 4
  · obtain ⟨A, R, x, rfl, hA, -⟩ := cut_at (O := O) (r := 0) (by omega)
    have hA : A = [] := List.eq_nil_of_length_eq_zero hA
    subst hA
    rw [List.nil_append] at *
    have hR : R.length = 3 := by rw [List.length_cons] at c; omega
    obtain ⟨fo1, E1, g1⟩ := e_nuRemove (n := 4) (A := []) (t := x) (r := R) o1 (by rw [List.nil_append]; omega) (by decide)
    obtain ⟨mo1, E2, g2⟩ := e_removeOrphan (A := []) (t := x) (r := R) o2 (by rw [List.nil_append]; omega)
    have g1 : hL fo1 R := g1
    have g2 : hL mo1 R := g2
    have hbR : b ∉ R := fun w => hbO (List.mem_cons_of_mem _ w)
    have hnd := List.nodup_cons.mp o5
    obtain ⟨-, A2⟩ := e_addNew (n := 4) (x := b) g1 (by omega) (by decide) (fun y hy => hO60 y (List.mem_cons_of_mem _ hy)) (by omega)
    refine ⟨R ++ [b], upd fo1 R.length (nI b), upd mo1 R.length (nI b), ?_, ⟨hL_snoc g1 b, hL_snoc g2 b, by rw [List.length_append]; simp; omega, fun y hy => ?_, ?_⟩, fun kk => ?_⟩
    · unfold m_bm_keepOrphan m_nu_isFull
      have E1 : m_nu_removeAt (nI (x :: R).length) fo 4 0 = some (nI R.length, fo1) := E1
      rw [mo_T (show nI (x :: R).length = Int32.ofNat 4 by rw [c]; rfl), mo_bs, mo_js, mo_F (by decide), E1, mo_bs]
      dsimp only
      rw [A2 ⟨by omega, hbR⟩, mo_bs]
    · rcases List.mem_append.mp hy with w | w
      · exact o4 y (List.mem_cons_of_mem _ w)
      · rw [List.mem_singleton.mp w]; exact ⟨hb, hbM⟩
    · rw [List.nodup_append]
      exact ⟨hnd.2, List.nodup_cons.mpr ⟨List.not_mem_nil, List.nodup_nil⟩, fun y hy z hz e => by rw [List.mem_singleton.mp hz] at e; exact hbR (e ▸ hy)⟩
    · have E2 : m_mm_removeOrphan (nI (x :: R).length) mo 0 = some (nI R.length, mo1) := E2
      rw [mo_js, mo_T (show nI (x :: R).length = (4 : Int32) by rw [c]; rfl), E2, mo_bs]
      dsimp only
      rw [mo_wIn (by omega) (by decide), ← nI_succ, List.length_append]
      rfl
  · obtain ⟨-, A2⟩ := e_addNew (n := 4) (x := b) o1 (by omega) (by decide) hO60 (by omega)
    refine ⟨O ++ [b], upd fo O.length (nI b), upd mo O.length (nI b), ?_, ⟨hL_snoc o1 b, hL_snoc o2 b, by rw [List.length_append]; simp; omega, fun y hy => ?_, ?_⟩, fun kk => ?_⟩
    · unfold m_bm_keepOrphan m_nu_isFull
      rw [mo_F (show ¬ nI O.length = Int32.ofNat 4 from N_eq (b := 4) c (by omega) (by decide)), mo_bs, mo_js, mo_T rfl]
      dsimp only
      rw [A2 ⟨by omega, hbO⟩, mo_bs]
    · rcases List.mem_append.mp hy with w | w
      · exact o4 y w
      · rw [List.mem_singleton.mp w]; exact ⟨hb, hbM⟩
    · rw [List.nodup_append]
      exact ⟨o5, List.nodup_cons.mpr ⟨List.not_mem_nil, List.nodup_nil⟩, fun y hy z hz e => by rw [List.mem_singleton.mp hz] at e; exact hbO (e ▸ hy)⟩
    · rw [mo_js, mo_F (show ¬ nI O.length = (4 : Int32) from N_eq (b := 4) c (by omega) (by decide))]
      dsimp only
      rw [mo_wIn (by omega) (by decide), ← nI_succ, List.length_append]
      rfl
theorem op_receive {nT nB k : Nat} {ins : Nat → List (Nat × Nat × Int32)} {outs : Nat → List (Int32 × Nat)} {P I : Nat → List Nat} {sc : Nat → Nat} {p L : List Nat} {dI : List (Nat × Nat × Int32)} {dO : List (Int32 × Nat)} {pp pi O : List Nat} {M tips lacc aacc : Int64} {ids ic islot ifp iout isec ilock oc olock oamt fpc fpar fic fi bl h pph pih : Nat → Int32} {cp cf cb : Nat → Int64} {cs csel sq fo lam aam ph inp src idx sec outp lock amt mid mpc mpar hol held mbl mh : Nat → Int32} {mp mb : Nat → Int64} {ms msel mo mpool ord macc free coin worth : Nat → Int32} {ts1 ts2 : Int32} {tph tih fso mm : Nat → Int32} (x1 : Int32) (hR : RG nT nB k ins outs P I sc p L dI dO pp pi O M tips lacc aacc ids ic islot ifp iout isec ilock oc olock oamt fpc fpar fic fi bl h pph pih cp cf cb cs csel sq fo lam aam ph inp src idx sec outp lock amt mid mpc mpar hol held mbl mh mp mb ms msel mo mpool ord macc free coin worth) : ∃ (o : Int32) (fso' mm' : Nat → Int32) (sc' : Nat → Nat) (p' : List Nat) (L' : List Nat) (O' : List Nat) (M' : Int64) (tips' : Int64) (lacc' : Int64) (aacc' : Int64) (cp' : Nat → Int64) (cf' : Nat → Int64) (cb' : Nat → Int64) (cs' : Nat → Int32) (csel' : Nat → Int32) (sq' : Nat → Int32) (fo' : Nat → Int32) (lam' : Nat → Int32) (aam' : Nat → Int32) (ph' : Nat → Int32) (mp' : Nat → Int64) (mb' : Nat → Int64) (ms' : Nat → Int32) (msel' : Nat → Int32) (mo' : Nat → Int32) (mpool' : Nat → Int32) (ord' : Nat → Int32) (macc' : Nat → Int32) (free' : Nat → Int32) (coin' : Nat → Int32) (worth' : Nat → Int32), m_bm_receive (nI nB) h (nI k) M tips (nI O.length) fo fpc fpar cp cs csel cb fso cf sq lacc lam fic fi ic islot olock bl ilock oc oamt aacc aam (nI p.length) ph x1 = some (o, M', tips', nI O'.length, fo', cp', cs', csel', cb', fso', cf', sq', lacc', lam', aacc', aam', nI p'.length, ph') ∧ m_mm_receive (nI k) (nI nB) M (nI O.length) (nI p.length) (nI L.length) mh mo mpc mpar mp ms msel mb mm ord macc free coin hol held inp src idx lock mbl sec amt worth outp mpool x1 = some (o, M', nI O'.length, nI p'.length, nI L'.length, mo', mp', ms', msel', mb', mm', ord', macc', free', coin', worth', mpool') ∧ RG nT nB k ins outs P I sc' p' L' dI dO pp pi O' M' tips' lacc' aacc' ids ic islot ifp iout isec ilock oc olock oamt fpc fpar fic fi bl h pph pih cp' cf' cb' cs' csel' sq' fo' lam' aam' ph' inp src idx sec outp lock amt mid mpc mpar hol held mbl mh mp' mb' ms' msel' mo' mpool' ord' macc' free' coin' worth' := by
  have hR0 := hR
  obtain ⟨hS0, hPS, hD, hPL, hO, hF⟩ := hR
  have hSD := hS0
  obtain ⟨hX, hY, hV, hB4, hBm, hI, hIm, hIt, hlk, hh⟩ := hS0
  have hF0 := hF
  obtain ⟨hDR, hVR, hF6, u, u2, F2, r1, r2, r3, r4, r5, r6, r7, r8, r9, r10, r11⟩ := hF
  have hO0 := hO
  obtain ⟨o1, o2, o3, o4, o5⟩ := hO
  have hB := hV.2.1
  have same : ∀ (o : Int32) (q1 : m_bm_receive (nI nB) h (nI k) M tips (nI O.length) fo fpc fpar cp cs csel cb fso cf sq lacc lam fic fi ic islot olock bl ilock oc oamt aacc aam (nI p.length) ph x1 = some (o, M, tips, nI O.length, fo, cp, cs, csel, cb, fso, cf, sq, lacc, lam, aacc, aam, nI p.length, ph)) (q2 : m_mm_receive (nI k) (nI nB) M (nI O.length) (nI p.length) (nI L.length) mh mo mpc mpar mp ms msel mb mm ord macc free coin hol held inp src idx lock mbl sec amt worth outp mpool x1 = some (o, M, nI O.length, nI p.length, nI L.length, mo, mp, ms, msel, mb, mm, ord, macc, free, coin, worth, mpool)), ∃ (o : Int32) (fso' mm' : Nat → Int32) (sc' : Nat → Nat) (p' : List Nat) (L' : List Nat) (O' : List Nat) (M' : Int64) (tips' : Int64) (lacc' : Int64) (aacc' : Int64) (cp' : Nat → Int64) (cf' : Nat → Int64) (cb' : Nat → Int64) (cs' : Nat → Int32) (csel' : Nat → Int32) (sq' : Nat → Int32) (fo' : Nat → Int32) (lam' : Nat → Int32) (aam' : Nat → Int32) (ph' : Nat → Int32) (mp' : Nat → Int64) (mb' : Nat → Int64) (ms' : Nat → Int32) (msel' : Nat → Int32) (mo' : Nat → Int32) (mpool' : Nat → Int32) (ord' : Nat → Int32) (macc' : Nat → Int32) (free' : Nat → Int32) (coin' : Nat → Int32) (worth' : Nat → Int32), m_bm_receive (nI nB) h (nI k) M tips (nI O.length) fo fpc fpar cp cs csel cb fso cf sq lacc lam fic fi ic islot olock bl ilock oc oamt aacc aam (nI p.length) ph x1 = some (o, M', tips', nI O'.length, fo', cp', cs', csel', cb', fso', cf', sq', lacc', lam', aacc', aam', nI p'.length, ph') ∧ m_mm_receive (nI k) (nI nB) M (nI O.length) (nI p.length) (nI L.length) mh mo mpc mpar mp ms msel mb mm ord macc free coin hol held inp src idx lock mbl sec amt worth outp mpool x1 = some (o, M', nI O'.length, nI p'.length, nI L'.length, mo', mp', ms', msel', mb', mm', ord', macc', free', coin', worth', mpool') ∧ RG nT nB k ins outs P I sc' p' L' dI dO pp pi O' M' tips' lacc' aacc' ids ic islot ifp iout isec ilock oc olock oamt fpc fpar fic fi bl h pph pih cp' cf' cb' cs' csel' sq' fo' lam' aam' ph' inp src idx sec outp lock amt mid mpc mpar hol held mbl mh mp' mb' ms' msel' mo' mpool' ord' macc' free' coin' worth' := fun o q1 q2 => ⟨o, fso, mm, sc, p, L, O, M, tips, lacc, aacc, cp, cf, cb, cs, csel, sq, fo, lam, aam, ph, mp, mb, ms, msel, mo, mpool, ord, macc, free, coin, worth, q1, q2, hR0⟩
  rcases e_has (n := nB) (by omega) x1 with ⟨a1, a2, a3, a4, a5⟩ | ⟨b, hb, rfl, a1, a2, a3, a4, a5⟩
  · refine same (-1) ?_ ?_
    · unfold m_bm_receive
      rw [a1, mo_bs, mo_T rfl]
    · unfold m_mm_receive
      rw [a3, mo_bs, mo_T rfl]
  have hO60 : ∀ y ∈ O, y < 1000 := fun y hy => by have := (o4 y hy).1; omega
  by_cases cw : b = 0 ∨ h b < 536870912
  · have wk : m_bl_isWorked h (nI b) = some 1 := by
      unfold m_bl_isWorked
      by_cases c0 : b = 0
      · rw [mo_js, mo_T (show nI b = 0 by rw [c0]; rfl)]
      · rw [mo_js, mo_F (nI_ne0 (by omega) (by omega)), mo_rIn (by omega) (by decide), mo_F (by rw [Int32.not_le]; exact cw.elim (fun w => absurd w c0) id)]
    have wkm : ∀ {γ : Type} (J N : Option γ), mo_br (nI b ≤ 0) J (mo_rI mh 62 (nI b) fun v19 => mo_br (v19 < 536870912) J N) = J := by
      intro γ J N
      by_cases c0 : b = 0
      · rw [mo_T (show nI b ≤ 0 by rw [c0]; decide)]
      · rw [mo_F (nI_nle (by omega) (by omega)), mo_rIn (by omega) (by decide), hh b hb, mo_T (cw.elim (fun w => absurd w c0) id)]
    by_cases c3 : tb M b = true ∨ b ∈ O
    · refine same (-3) ?_ ?_
      · unfold m_bm_receive
        rw [a1, mo_bs, mo_F (by decide), wk, mo_bs, mo_F (by decide), e_dgHas M (by omega), mo_bs]
        cases t : tb M b with
        | true => rw [mo_F (by decide)]
        | false =>
          have w : b ∈ O := c3.elim (fun w => by rw [t] at w; cases w) id
          rw [mo_T bI_f, e_nuHas o1 (by omega) (by decide) hO60 (by omega), mo_bs, pB_t w, mo_F (by decide)]
      · unfold m_mm_receive
        rw [a3, mo_bs, mo_F (by decide), mo_js, wkm, e_in' M (by omega), mo_bs]
        cases t : tb M b with
        | true => rw [mo_F (by decide)]
        | false =>
          have w : b ∈ O := c3.elim (fun w => by rw [t] at w; cases w) id
          rw [mo_T bI_f, e_isOrphan o2 o3 hO60 (by omega), mo_bs, pB_t w, mo_F (by decide)]
    have hbM : tb M b = false := by
      cases t : tb M b with
      | false => rfl
      | true => exact absurd (Or.inl t) c3
    have hbO : b ∉ O := fun w => c3 (Or.inr w)
    by_cases c4 : ∀ q ∈ P b, tb M q = true
    · have hPb := hPS b hb
      have hov := e_parentsOverlap (N := nB) (cp := cp) hB4 hB hb hB (fun q hq => by have := hPb.1 q hq; omega)
      have hne := e_nested (mp := mp) hBm hB hb
      rw [ov_same c4 (fun y hy => (hDR.2.1 y hy).2.2.1)] at hne
      cases q : pB (∃ p ∈ P b, ∃ q ∈ P b, tb (cp p) q = true) with
      | true =>
        rw [q] at hov hne
        refine same (-4) ?_ ?_
        · unfold m_bm_receive
          rw [a1, mo_bs, mo_F (by decide), wk, mo_bs, mo_F (by decide), e_dgHas M (by omega), mo_bs, hbM, mo_T bI_f, e_nuHas o1 (by omega) (by decide) hO60 (by omega), mo_bs, pB_f hbO, mo_T bI_f, e_hasParentsOf hB4 hB hb, mo_bs, pB_t c4, mo_F (by decide), hov, mo_bs, mo_F (by decide)]
        · unfold m_mm_receive
          rw [a3, mo_bs, mo_F (by decide), mo_js, wkm, e_in' M (by omega), mo_bs, hbM, mo_T bI_f, e_isOrphan o2 o3 hO60 (by omega), mo_bs, pB_f hbO, mo_T bI_f, e_complete hBm hB hb, mo_bs, pB_t c4, mo_F (by decide), hne, mo_bs, mo_F (by decide)]
      | false =>
        rw [q] at hov hne
        have hb0 : b ≠ 0 := fun w => by
          have := hDR.2.2.2.2.2.2.2.2.2.2.1
          rw [w, this] at hbM
          cases hbM
        obtain ⟨tips1, sc1, cs1, csel1, ms1, msel1, fso1, mm1, cp1, cb1, cf1, mp1, mb1, T1, T2, T3⟩ := dr_attach (fso := fso) (mm := mm) hDR hB4 hBm hh hb hbM (hPb.2 hb0) (fun p hp => ⟨c4 p hp, hPb.1 p hp⟩)
        have hO1 : ∀ c ∈ O, c < nB ∧ tb (M ||| bi b) c = false := fun c hc => by
          obtain ⟨w3, w4⟩ := o4 c hc
          refine ⟨w3, ?_⟩
          rw [tb_or, tb_bi (by omega), w4, decide_eq_false (fun (e : c = b) => hbO (e ▸ hc))]
          rfl
        obtain ⟨O', M', tips', sc', cs2, csel2, ms2, msel2, fo', mo', fso2, mm2, cp2, cb2, cf2, mp2, mb2, U1, U2, U3, U4, U5, U6, U7, U8⟩ := orph hB4 hBm hh hPS O.length 0 O (M ||| bi b) tips1 sc1 cs1 csel1 ms1 msel1 fo mo fso1 mm1 cp1 cb1 cf1 mp1 mb1 1000 1000 rfl (by omega) hO1 o5 T3 o1 o2 (by omega) (by omega)
        have hrip := e_ripe (M := M ||| bi b) hBm hB (fun c hc => (o4 c hc).1) o3 o2
        obtain ⟨cs', csel', fso', sq', lam', aam', ph', ms3, msel3, mm3, ord3, macc3, free3, coin3, worth3, mpool', ms', msel', mm', ord', macc', free', coin', worth', cp', cb', mp3, mb3, mp', mb', lacc', aacc', K, L', W1, W2, W3, W4, W5⟩ := follow (fso := fso2) (fsq := sq) (lam := lam) (aam := aam) (mm := mm2) (ord := ord) (macc := macc) (free := free) (coin := coin) (worth := worth) (lacc := lacc) (aacc := aacc) (places := nI L.length) hSD U3 r8 r9 r10 r11
        refine ⟨0, fso', mm', sc', K, L', O', M', tips', lacc', aacc', cp', cf2, cb', cs', csel', sq', fo', lam', aam', ph', mp', mb', ms', msel', mo', mpool', ord', macc', free', coin', worth', ?_, ?_, hSD, hPS, hD, hPL, ⟨U4, U5, U6, U7, U8⟩, W4⟩
        · unfold m_bm_receive
          rw [a1, mo_bs, mo_F (by decide), wk, mo_bs, mo_F (by decide), e_dgHas M (by omega), mo_bs, hbM, mo_T bI_f, e_nuHas o1 (by omega) (by decide) hO60 (by omega), mo_bs, pB_f hbO, mo_T bI_f, e_hasParentsOf hB4 hB hb, mo_bs, pB_t c4, mo_F (by decide), hov, mo_bs, mo_T bI_f, T1, mo_bs]
          dsimp only
          have U1 : m_bm_attachOrphans (nI O.length) fo (nI k) (M ||| bi b) tips1 (nI nB) fpc fpar cp1 cs1 h csel1 cb1 fso1 cf1 = _ := U1
          rw [U1, mo_bs]
          dsimp only
          rw [W1, mo_bs]
        · unfold m_mm_receive
          rw [a3, mo_bs, mo_F (by decide), mo_js, wkm, e_in' M (by omega), mo_bs, hbM, mo_T bI_f, e_isOrphan o2 o3 hO60 (by omega), mo_bs, pB_f hbO, mo_T bI_f, e_complete hBm hB hb, mo_bs, pB_t c4, mo_F (by decide), hne, mo_bs, mo_T bI_f, T2, mo_bs]
          dsimp only
          rw [hrip, mo_bs, U2, mo_bs]
          dsimp only
          rw [W2, mo_bs]
          dsimp only
          rw [W3, mo_bs]
    · obtain ⟨O', fo', mo', E1, E2, E3⟩ := e_keep hB hO0 hb hbM hbO
      refine ⟨1, fso, mm, sc, p, L, O', M, tips, lacc, aacc, cp, cf, cb, cs, csel, sq, fo', lam, aam, ph, mp, mb, ms, msel, mo', mpool, ord, macc, free, coin, worth, ?_, ?_, hSD, hPS, hD, hPL, E2, hF0⟩
      · unfold m_bm_receive
        rw [a1, mo_bs, mo_F (by decide), wk, mo_bs, mo_F (by decide), e_dgHas M (by omega), mo_bs, hbM, mo_T bI_f, e_nuHas o1 (by omega) (by decide) hO60 (by omega), mo_bs, pB_f hbO, mo_T bI_f, e_hasParentsOf hB4 hB hb, mo_bs, pB_f c4, mo_T bI_f, E1, mo_bs]
      · unfold m_mm_receive
        rw [a3, mo_bs, mo_F (by decide), mo_js, wkm, e_in' M (by omega), mo_bs, hbM, mo_T bI_f, e_isOrphan o2 o3 hO60 (by omega), mo_bs, pB_f hbO, mo_T bI_f, e_complete hBm hB hb, mo_bs, pB_f c4, mo_T bI_f]
        exact E3 (fun a g => some ((1 : Int32), M, a, nI p.length, nI L.length, g, mp, ms, msel, mb, mm, ord, macc, free, coin, worth, mpool))
  · have c0 : b ≠ 0 := fun w => cw (Or.inl w)
    have c1 : ¬ h b < 536870912 := fun w => cw (Or.inr w)
    refine same (-2) ?_ ?_
    · unfold m_bm_receive m_bl_isWorked
      rw [a1, mo_bs, mo_F (by decide), mo_js, mo_F (nI_ne0 (by omega) (by omega)), mo_rIn (by omega) (by decide), mo_T (by rw [Int32.not_lt] at c1; exact c1), mo_bs, mo_T rfl]
    · unfold m_mm_receive
      rw [a3, mo_bs, mo_F (by decide), mo_js, mo_F (nI_nle (by omega) (by omega)), mo_rIn (by omega) (by decide), hh b hb, mo_F c1]
