/-! the orphans that have become complete enter the DAG, one after the other, on both sides -/
theorem cut_at {O : List Nat} {r : Nat} (h : r < O.length) : ∃ (A R : List Nat) (b : Nat), O = A ++ b :: R ∧ A.length = r ∧ O.getD r 0 = b := by
  refine ⟨O.take r, O.drop (r + 1), O[r], ?_, by rw [List.length_take]; omega, getD_get h⟩
  rw [← List.drop_eq_getElem_cons h, List.take_append_drop]
theorem ov_same {P : Nat → List Nat} {M : Int64} {cp mp : Nat → Int64} {b : Nat} (hp : ∀ p ∈ P b, tb M p = true) (ha : ∀ y, tb M y = true → mp y = cp y) : pB (∃ p ∈ P b, ∃ q ∈ P b, tb (mp p) q = true) = pB (∃ p ∈ P b, ∃ q ∈ P b, tb (cp p) q = true) := by
  refine pB_iff ⟨?_, ?_⟩
  · rintro ⟨p, h1, q, h2, h3⟩
    rw [ha p (hp p h1)] at h3
    exact ⟨p, h1, q, h2, h3⟩
  · rintro ⟨p, h1, q, h2, h3⟩
    rw [← ha p (hp p h1)] at h3
    exact ⟨p, h1, q, h2, h3⟩
theorem lt4 {t : Nat} (h : t < 4) : ¬ (4 : Int32) ≤ nI t := nI_ge (b := 4) h (by decide)
theorem orph {N k : Nat} {P : Nat → List Nat} {h mh fpc fpar mpc mpar : Nat → Int32} (hBc : BP 4 N P fpc fpar) (hBm : BP 4 N P mpc mpar) (hh : ∀ y, y < N → mh y = h y) (hPS : ∀ b, b < N → (∀ p ∈ P b, p < b) ∧ (b ≠ 0 → P b ≠ [])) : ∀ (n turn : Nat) (O : List Nat) (M tips : Int64) (sc : Nat → Nat) (cs csel ms msel fo mo fso mm : Nat → Int32) (cp cb cf mp mb : Nat → Int64) (f1 f2 : Nat), O.length = n → turn + n ≤ 4 → (∀ b ∈ O, b < N ∧ tb M b = false) → O.Nodup → DR N k P M tips sc cs csel cp cb cf ms msel mp mb → hL fo O → hL mo O → n < f1 → n < f2 →
    ∃ (O' : List Nat) (M' tips' : Int64) (sc' : Nat → Nat) (cs' csel' ms' msel' fo' mo' fso' mm' : Nat → Int32) (cp' cb' cf' mp' mb' : Nat → Int64),
      mo_lp (m_bm_attachOrphans_L2 (nI k) (nI N) fpc fpar h) f1 (nI turn, nI O.length, fo, M, tips, cp, cs, csel, cb, fso, cf) = some (nI O'.length, fo', M', tips', cp', cs', csel', cb', fso', cf') ∧
      mo_lp (m_mm_receive_L114 (nI k) mh mpc mpar) f2 (oI (rdy P M O O.length), M, nI O.length, mo, mp, ms, msel, mb, mm) = some (M', nI O'.length, mo', mp', ms', msel', mb', mm') ∧
      DR N k P M' tips' sc' cs' csel' cp' cb' cf' ms' msel' mp' mb' ∧ hL fo' O' ∧ hL mo' O' ∧ O'.length ≤ 4 ∧ (∀ b ∈ O', b < N ∧ tb M' b = false) ∧ O'.Nodup := by
  intro n
  induction n with
  | zero =>
    intro turn O M tips sc cs csel ms msel fo mo fso mm cp cb cf mp mb f1 f2 hn ht hO hnd hR h1 h2 hf1 hf2
    obtain ⟨f1, rfl⟩ : ∃ g, f1 = g + 1 := ⟨f1 - 1, by omega⟩
    obtain ⟨f2, rfl⟩ : ∃ g, f2 = g + 1 := ⟨f2 - 1, by omega⟩
    have eO : O = [] := List.eq_nil_of_length_eq_zero hn
    subst eO
    have hN : N ≤ 60 := hR.1.1
    refine ⟨[], M, tips, sc, cs, csel, ms, msel, fo, mo, fso, mm, cp, cb, cf, mp, mb, ?_, ?_, hR, h1, h2, by simp, hO, hnd⟩
    · show m_bm_attachOrphans_L2 (nI k) (nI N) fpc fpar h (mo_lp (m_bm_attachOrphans_L2 (nI k) (nI N) fpc fpar h) f1) _ = _
      generalize mo_lp (m_bm_attachOrphans_L2 (nI k) (nI N) fpc fpar h) f1 = back
      unfold m_bm_attachOrphans_L2
      dsimp only
      by_cases e : 4 ≤ turn
      · exact mo_T (nI_le e (by omega))
      · rw [mo_F (lt4 (by omega)), e_ready hBc hN (fun b hb => (hO b hb).1) (by simp) h1, mo_bs]
        exact mo_T rfl
    · show m_mm_receive_L114 (nI k) mh mpc mpar (mo_lp (m_mm_receive_L114 (nI k) mh mpc mpar) f2) _ = _
      generalize mo_lp (m_mm_receive_L114 (nI k) mh mpc mpar) f2 = back
      unfold m_mm_receive_L114
      dsimp only
      exact mo_T (show oI none < 0 by decide)
  | succ n ih =>
    intro turn O M tips sc cs csel ms msel fo mo fso mm cp cb cf mp mb f1 f2 hn ht hO hnd hR h1 h2 hf1 hf2
    obtain ⟨f1, rfl⟩ : ∃ g, f1 = g + 1 := ⟨f1 - 1, by omega⟩
    obtain ⟨f2, rfl⟩ : ∃ g, f2 = g + 1 := ⟨f2 - 1, by omega⟩
    have hN : N ≤ 60 := hR.1.1
    have hON : ∀ b ∈ O, b < N := fun b hb => (hO b hb).1
    have hrd := e_ready (M := M) hBc hN hON (by omega) h1
    cases hr : rdy P M O O.length with
    | none =>
      rw [hr] at hrd
      refine ⟨O, M, tips, sc, cs, csel, ms, msel, fo, mo, fso, mm, cp, cb, cf, mp, mb, ?_, ?_, hR, h1, h2, by omega, hO, hnd⟩
      · show m_bm_attachOrphans_L2 (nI k) (nI N) fpc fpar h (mo_lp (m_bm_attachOrphans_L2 (nI k) (nI N) fpc fpar h) f1) _ = _
        generalize mo_lp (m_bm_attachOrphans_L2 (nI k) (nI N) fpc fpar h) f1 = back
        unfold m_bm_attachOrphans_L2
        dsimp only
        rw [mo_F (lt4 (by omega)), hrd, mo_bs]
        exact mo_T rfl
      · show m_mm_receive_L114 (nI k) mh mpc mpar (mo_lp (m_mm_receive_L114 (nI k) mh mpc mpar) f2) _ = _
        generalize mo_lp (m_mm_receive_L114 (nI k) mh mpc mpar) f2 = back
        unfold m_mm_receive_L114
        dsimp only
        exact mo_T (by decide)
    | some r =>
      rw [hr] at hrd
      obtain ⟨hr1, hr2⟩ := rdy_lt hr
      obtain ⟨A, R, b, rfl, rfl, hb⟩ := cut_at hr1
      rw [hb] at hr2
      have hlen : (A ++ b :: R).length = (A ++ R).length + 1 := by rw [List.length_append, List.length_cons, List.length_append]; omega
      have hbO : b ∈ A ++ b :: R := List.mem_append_right _ List.mem_cons_self
      obtain ⟨hbN, hbM⟩ := hO b hbO
      have hget : (A ++ b :: R)[A.length]? = some b := by rw [List.getElem?_append_right (Nat.le_refl _), Nat.sub_self]; rfl
      have hget2 : (A ++ b :: R)[A.length]'hr1 = b := by
        rw [List.getElem?_eq_getElem hr1] at hget
        exact Option.some.inj hget
      have hsub : ∀ c ∈ A ++ R, c ∈ A ++ b :: R ∧ c ≠ b := by
        intro c hc
        have hnd2 := List.nodup_append.mp hnd
        have hnd3 := List.nodup_cons.mp hnd2.2.1
        rcases List.mem_append.mp hc with w | w
        · exact ⟨List.mem_append_left _ w, hnd2.2.2 c w b List.mem_cons_self⟩
        · exact ⟨List.mem_append_right _ (List.mem_cons_of_mem _ w), fun e => hnd3.1 (e ▸ w)⟩
      have hndR : (A ++ R).Nodup := List.Nodup.sublist (List.Sublist.append_left (List.sublist_cons_self b R) A) hnd
      obtain ⟨fo1, E1, hfo1⟩ := e_nuRemove (n := 4) h1 (by omega) (by decide)
      obtain ⟨mo1, E2, hmo1⟩ := e_removeOrphan h2 (by omega)
      have hat := e_nuAt (n := 4) h1 (by omega) (by decide) hr1
      rw [hget2] at hat
      have hmo := h2 _ _ hget
      have hPb := (hPS b hbN)
      have hov := e_parentsOverlap (N := N) (cp := cp) hBc hN hbN hN (fun p hp => by have := hPb.1 p hp; omega)
      have hne := e_nested (mp := mp) hBm hN hbN
      rw [ov_same hr2 (fun y hy => (hR.2.1 y hy).2.2.1)] at hne
      have hb0 : b ≠ 0 := fun w => by
        have := hR.2.2.2.2.2.2.2.2.2.2.1
        rw [w, this] at hbM
        cases hbM
      cases q : pB (∃ p ∈ P b, ∃ q ∈ P b, tb (cp p) q = true) with
      | true =>
        rw [q] at hov hne
        obtain ⟨O', M', tips', sc', cs', csel', ms', msel', fo', mo', fso', mm', cp', cb', cf', mp', mb', R1, R2, R3⟩ := ih (turn + 1) (A ++ R) M tips sc cs csel ms msel fo1 mo1 fso mm cp cb cf mp mb f1 f2 (by omega) (by omega) (fun c hc => hO c (hsub c hc).1) hndR hR hfo1 hmo1 (by omega) (by omega)
        have hrip := e_ripe (M := M) hBm hN (fun c hc => hON c (hsub c hc).1) (by omega) hmo1
        refine ⟨O', M', tips', sc', cs', csel', ms', msel', fo', mo', fso', mm', cp', cb', cf', mp', mb', ?_, ?_, R3⟩
        · show m_bm_attachOrphans_L2 (nI k) (nI N) fpc fpar h (mo_lp (m_bm_attachOrphans_L2 (nI k) (nI N) fpc fpar h) f1) _ = _
          generalize mo_lp (m_bm_attachOrphans_L2 (nI k) (nI N) fpc fpar h) f1 = back at R1 ⊢
          unfold m_bm_attachOrphans_L2
          dsimp only
          rw [mo_F (lt4 (by omega)), hrd, mo_bs]
          show mo_br (nI A.length = -1) _ _ = _
          rw [mo_F (nI_nm1 (by omega)), show oI (some A.length) = nI A.length from rfl, hat, mo_bs, E1, mo_bs]
          dsimp only
          rw [hov, mo_bs, mo_js, mo_F (by decide), ← nI_succ]
          exact R1
        · show m_mm_receive_L114 (nI k) mh mpc mpar (mo_lp (m_mm_receive_L114 (nI k) mh mpc mpar) f2) _ = _
          generalize mo_lp (m_mm_receive_L114 (nI k) mh mpc mpar) f2 = back at R2 ⊢
          unfold m_mm_receive_L114
          dsimp only
          rw [show oI (some A.length) = nI A.length from rfl, mo_F (nI_pos (by omega)), mo_rIn (by omega) (by decide), hmo, E2, mo_bs]
          dsimp only
          rw [hne, mo_bs, mo_js, mo_F (by decide)]
          dsimp only
          rw [hrip, mo_bs]
          exact R2
      | false =>
        rw [q] at hov hne
        obtain ⟨tips1, sc1, cs1, csel1, ms1, msel1, fso1, mm1, cp1, cb1, cf1, mp1, mb1, T1, T2, T3⟩ := dr_attach (fso := fso) (mm := mm) hR hBc hBm hh hbN hbM (hPb.2 hb0) (fun p hp => ⟨hr2 p hp, hPb.1 p hp⟩)
        have hO1 : ∀ c ∈ A ++ R, c < N ∧ tb (M ||| bi b) c = false := fun c hc => by
          obtain ⟨w1, w2⟩ := hsub c hc
          obtain ⟨w3, w4⟩ := hO c w1
          refine ⟨w3, ?_⟩
          rw [tb_or, tb_bi (by omega), w4, decide_eq_false w2]
          rfl
        obtain ⟨O', M', tips', sc', cs', csel', ms', msel', fo', mo', fso', mm', cp', cb', cf', mp', mb', R1, R2, R3⟩ := ih (turn + 1) (A ++ R) (M ||| bi b) tips1 sc1 cs1 csel1 ms1 msel1 fo1 mo1 fso1 mm1 cp1 cb1 cf1 mp1 mb1 f1 f2 (by omega) (by omega) hO1 hndR T3 hfo1 hmo1 (by omega) (by omega)
        have hrip := e_ripe (M := M ||| bi b) hBm hN (fun c hc => hON c (hsub c hc).1) (by omega) hmo1
        refine ⟨O', M', tips', sc', cs', csel', ms', msel', fo', mo', fso', mm', cp', cb', cf', mp', mb', ?_, ?_, R3⟩
        · show m_bm_attachOrphans_L2 (nI k) (nI N) fpc fpar h (mo_lp (m_bm_attachOrphans_L2 (nI k) (nI N) fpc fpar h) f1) _ = _
          generalize mo_lp (m_bm_attachOrphans_L2 (nI k) (nI N) fpc fpar h) f1 = back at R1 ⊢
          unfold m_bm_attachOrphans_L2
          dsimp only
          rw [mo_F (lt4 (by omega)), hrd, mo_bs]
          show mo_br (nI A.length = -1) _ _ = _
          rw [mo_F (nI_nm1 (by omega)), show oI (some A.length) = nI A.length from rfl, hat, mo_bs, E1, mo_bs]
          dsimp only
          rw [hov, mo_bs, mo_js, mo_T bI_f, T1, mo_bs, ← nI_succ]
          exact R1
        · show m_mm_receive_L114 (nI k) mh mpc mpar (mo_lp (m_mm_receive_L114 (nI k) mh mpc mpar) f2) _ = _
          generalize mo_lp (m_mm_receive_L114 (nI k) mh mpc mpar) f2 = back at R2 ⊢
          unfold m_mm_receive_L114
          dsimp only
          rw [show oI (some A.length) = nI A.length from rfl, mo_F (nI_pos (by omega)), mo_rIn (by omega) (by decide), hmo, E2, mo_bs]
          dsimp only
          rw [hne, mo_bs, mo_js, mo_T bI_f, T2, mo_bs]
          dsimp only
          rw [hrip, mo_bs]
          exact R2
