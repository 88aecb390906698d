/-! submit -/
theorem resettle {nT nB k : Nat} {ins : Nat → List (Nat × Nat × Int32)} {outs : Nat → List (Int32 × Nat)} {P I : Nat → List Nat} {sc : Nat → Nat} {p L : List Nat} {M tips lacc aacc : Int64} {h bl ic islot ilock oc olock oamt fpc fpar fic fi inp src idx sec outp lock amt mpc mpar hol held mbl mh cs csel sq lam aam ph ms msel ord macc free coin worth mpool mm : Nat → Int32} {cp cb cf mp mb : Nat → Int64} (places : Int32) (hS : SD nT nB ins outs P I h bl ic islot ilock oc olock oamt fpc fpar fic fi inp src idx sec outp lock amt mpc mpar hol held mbl mh) (hF : FR nT nB k ins outs P I M tips sc p h bl olock amt cs csel sq lam aam ph cp cb cf lacc aacc ms msel ord macc free coin worth mpool mp mb L) :
    ∃ (ms1 msel1 mm1 ord1 macc1 free1 coin1 worth1 mpool1 ms2 msel2 mm2 ord2 macc2 free2 coin2 worth2 : Nat → Int32) (mp1 mb1 mp2 mb2 : Nat → Int64) (u u2 : Nat → Option Nat) (F2 : Nat),
      m_mm_settle (nI k) (nI nB) M (nI p.length) places mpc mpar mp ms mh msel mb mm ord macc free coin hol held inp src idx lock mbl sec amt worth outp mpool = some (nI p.length, nI L.length, mp1, ms1, msel1, mb1, mm1, ord1, macc1, free1, coin1, worth1, mpool1) ∧
      m_mm_look (nI k) (nI nB) M (nI L.length) mpc mpar mp1 ms1 mh msel1 mb1 mm1 ord1 macc1 free1 coin1 hol held inp src idx lock mbl sec amt worth1 outp = some (nI L.length, mp2, ms2, msel2, mb2, mm2, ord2, macc2, free2, coin2, worth2) ∧
      FR nT nB k ins outs P I M tips sc p h bl olock amt cs csel sq lam aam ph cp cb cf lacc aacc ms2 msel2 ord2 macc2 free2 coin2 worth2 mpool1 mp2 mb2 L ∧ hL mpool1 p ∧
      runB ins outs olock bl I (cb 60) sc L (u00, 0) = (u, lacc) ∧ LC u lam ∧ LM u lacc amt free2 coin2 worth2 macc2 ∧ LV u lacc nT nB 3840 outs ∧ flt ins outs olock bl p (u, lacc, 0) = (p, u2, aacc, F2) ∧ LC u2 aam ∧ LV u2 aacc nT nB 3840 outs ∧ LM u2 aacc amt free1 coin1 worth1 macc1 := by
  have hS0 := hS
  obtain ⟨hX, hY, hV, hB4, hBm, hI, hIm, hIt, hlk, hh⟩ := hS
  obtain ⟨hDR, hVR, hF6, u, u2, F2, r1, r2, r3, r4, r5, r6, r7, r8, r9, r10, r11⟩ := hF
  have hD := hDR.1
  obtain ⟨d1, d2, d3, d4, d5, d6, d7⟩ := hD
  obtain ⟨v1, v2, v3, v4, v5, v6, v7, v8⟩ := hVR
  have hle := cnt_le M 60
  obtain ⟨ms1, msel1, mma, mm1, ord1, mp1, mb1, s1, s2, s3, s4, s5⟩ := dr_again (mm := mm) (ord := ord) (sq := sq) places hDR hBm hh hF6 v4
  have s4' := s4
  obtain ⟨-, sa, -⟩ := s4
  obtain ⟨q1, q2, q3, q4, q5, q6, q7, q8⟩ := s5
  obtain ⟨ua, aa, ma, fa, ca, wa, E1, E2, E3⟩ := e_look (k := k) (macc := macc) (free := free) (coin := coin) (worth := worth) hS0 s1 s2 s3 q5 (by omega) (fun b hb => ⟨d3 b ((v7 b).mp hb), by rw [(sa b ((v7 b).mp hb)).1]; exact d4 b ((v7 b).mp hb)⟩) v8 q3
  have eu : (ua, aa) = (u, lacc) := E2.symm.trans r1
  cases eu
  obtain ⟨u3, a3, F3, K', mb0, fb, cb0, mpool1, N1, N2, N3, N4⟩ := e_settleL8 (W := 3840) (bl := bl) (p0 := p.length) hX hY hV (by decide) hlk r10 p [] u lacc 0 1000 ma fa ca mpool r11 (by simp) E3 r4 (Nat.zero_le _) (hL_nil _) (fun i t ht => by
    rw [Nat.sub_self, Nat.zero_add]
    exact r9 i t ht) (by omega)
  have ek : (K', u3, a3, F3) = (p, u2, aacc, F2) := N1.symm.trans r5
  cases ek
  obtain ⟨ms2, msel2, mmb, mm2, ord2, mp2, mb2, t1, t2, t3, t4, t5⟩ := dr_again (mm := mm1) (ord := ord1) (sq := sq) (nI L.length) s4' hBm hh hF6 v4
  have t4' := t4
  obtain ⟨-, ta, -⟩ := t4
  obtain ⟨w1, w2, w3, w4, w5, w6, w7, w8⟩ := t5
  obtain ⟨uc, ac, mc, fc, cc, wc, Z1, Z2, Z3⟩ := e_look (k := k) (macc := mb0) (free := fb) (coin := cb0) (worth := wa) hS0 t1 t2 t3 w5 (by omega) (fun b hb => ⟨d3 b ((v7 b).mp hb), by rw [(ta b ((v7 b).mp hb)).1]; exact d4 b ((v7 b).mp hb)⟩) v8 w3
  have ez : (uc, ac) = (u, lacc) := Z2.symm.trans r1
  cases ez
  refine ⟨ms1, msel1, mm1, ord1, mb0, fb, cb0, wa, mpool1, ms2, msel2, mm2, ord2, mc, fc, cc, wc, mp1, mb1, mp2, mb2, u, u2, F2, ?_, Z1, ⟨t4', ⟨w1, w2, w3, w4, w5, w6, w7, w8⟩, hF6, u, u2, F2, r1, r2, Z3, r4, r5, r6, r7, r8, N4, r10, r11⟩, N4, r1, r2, Z3, r4, r5, r6, r7, N3⟩
  unfold m_mm_settle
  rw [E1, mo_bs]
  dsimp only
  have N2 : mo_lp (m_mm_settle_L8 (nI p.length) inp src idx lock mbl sec amt outp wa) 1000 (0, 0, ma, fa, ca, mpool) = some (nI p.length, mb0, fb, cb0, mpool1) := by
    rw [Nat.sub_self] at N2
    exact N2
  rw [N2, mo_bs]
theorem flt_snoc {ins : Nat → List (Nat × Nat × Int32)} {outs : Nat → List (Int32 × Nat)} {ol bl : Nat → Int32} {t : Nat} {u' : Nat → Option Nat} {a' : Int64} {F' : Nat} (hok : okT u' a' ol bl (ins t) (outs t) t) : ∀ (l : List Nat) (z : (Nat → Option Nat) × Int64 × Nat), flt ins outs ol bl l z = (l, u', a', F') → flt ins outs ol bl (l ++ [t]) z = (l ++ [t], run1 ins outs ol bl t (u', a', F')) := by
  intro l
  induction l with
  | nil =>
    intro z h
    have h2 : z = (u', a', F') := congrArg Prod.snd h
    subst h2
    show flt ins outs ol bl (t :: []) (u', a', F') = _
    rw [flt_t (z := (u', a', F')) hok]
    rfl
  | cons s l ih =>
    intro z h
    by_cases q : okT z.1 z.2.1 ol bl (ins s) (outs s) s
    · rw [flt_t q] at h
      have h1 := (List.cons.inj (congrArg Prod.fst h)).2
      have h2 := congrArg Prod.snd h
      have := ih (run1 ins outs ol bl s z) (Prod.ext h1 h2)
      show flt ins outs ol bl (s :: (l ++ [t])) z = _
      rw [flt_t q, this]
      rfl
    · rw [flt_f q] at h
      have h1 := (flt_sub (ins := ins) (outs := outs) (ol := ol) (bl := bl) l z).2
      rw [h, List.length_cons] at h1
      omega
theorem e_subL23 {p : List Nat} {mpool : Nat → Int32} {t : Nat} (c : Bool) (h : hL mpool p) (hl : p.length ≤ 8) (hp : ∀ y ∈ p, y < 1000) (ht : t < 1000) : mo_lp (m_mm_submit_L23 (nI p.length) mpool (nI t)) 1000 (bI c, 0) = some (bI (c || pB (t ∈ p))) := by
  refine so_eq (lp_ix p.length (fun j z => z = (bI (c || pB (t ∈ p.take j)), nI j)) (fun o => o = bI (c || pB (t ∈ p))) ?_ 1000 0 (bI c, 0) (Nat.zero_le _) (by rw [pB_f (by simp), Bool.or_false]; rfl) (by omega))
  intro back j z hj hz ih
  subst hz
  unfold m_mm_submit_L23
  dsimp only
  by_cases e : j = p.length
  · rw [mo_T (nI_le (by omega) (by omega)), e, List.take_length]
    exact ⟨_, rfl, rfl⟩
  · have hj2 : j < p.length := by omega
    have hy := hp _ (List.getElem_mem hj2)
    rw [mo_F (nI_ge hj2 (by omega)), mo_js, mo_js]
    cases q : (c || pB (t ∈ p.take j)) with
    | true =>
      rw [mo_F (by decide), ← nI_succ]
      refine ih _ hj2 ?_
      have : (c || pB (t ∈ p.take (j + 1))) = true := by
        rw [Bool.or_eq_true] at q ⊢
        exact q.imp id (fun w => pB_t ((mem_take hj2).mpr (Or.inl (pB_of w))))
      rw [this]
      rfl
    | false =>
      rw [Bool.or_eq_false_iff] at q
      rw [mo_T bI_f, mo_rIn (by omega) (by decide), h j _ (List.getElem?_eq_getElem hj2)]
      by_cases w : p[j] = t
      · rw [mo_T (by rw [w]), ← nI_succ]
        refine ih _ hj2 ?_
        rw [pB_t ((mem_take hj2).mpr (Or.inr w.symm)), Bool.or_true]
        rfl
      · rw [mo_F (N_eq w (by omega) (by omega)), ← nI_succ]
        refine ih _ hj2 ?_
        rw [q.1, pB_f (fun z => ((mem_take hj2).mp z).elim (pB_nof q.2) (fun z => w z.symm))]
        rfl
theorem op_submit {nT nB k : Nat} {ins : Nat → List (Nat × Nat × Int32)} {outs : Nat → List (Int32 × Nat)} {P I : Nat → List Nat} {sc : Nat → Nat} {p L : List Nat} {dI : List (Nat × Nat × Int32)} {dO : List (Int32 × Nat)} {pp pi O : List Nat} {M tips lacc aacc : Int64} {ids ic islot ifp iout isec ilock oc olock oamt fpc fpar fic fi bl h pph pih : Nat → Int32} {cp cf cb : Nat → Int64} {cs csel sq fo lam aam ph inp src idx sec outp lock amt mid mpc mpar hol held mbl mh : Nat → Int32} {mp mb : Nat → Int64} {ms msel mo mpool ord macc free coin worth : Nat → Int32} {ts1 ts2 : Int32} {tph tih fso mm : Nat → Int32} (x1 : Int32) (hR : RG nT nB k ins outs P I sc p L dI dO pp pi O M tips lacc aacc ids ic islot ifp iout isec ilock oc olock oamt fpc fpar fic fi bl h pph pih cp cf cb cs csel sq fo lam aam ph inp src idx sec outp lock amt mid mpc mpar hol held mbl mh mp mb ms msel mo mpool ord macc free coin worth) : ∃ (o : Int32) (mm' : Nat → Int32) (p' : List Nat) (L' : List Nat) (aacc' : Int64) (aam' : Nat → Int32) (ph' : Nat → Int32) (mp' : Nat → Int64) (mb' : Nat → Int64) (ms' : Nat → Int32) (msel' : Nat → Int32) (mpool' : Nat → Int32) (ord' : Nat → Int32) (macc' : Nat → Int32) (free' : Nat → Int32) (coin' : Nat → Int32) (worth' : Nat → Int32), m_bm_submit (nI nT) aacc ic islot aam olock bl ilock oc oamt (nI p.length) ph x1 = some (o, aacc', aam', nI p'.length, ph') ∧ m_mm_submit (nI k) (nI nT) (nI nB) M (nI p.length) (nI L.length) macc mpool mpc mpar mp ms mh msel mb mm ord free coin hol held inp src idx lock mbl sec amt worth outp x1 = some (o, nI p'.length, nI L'.length, macc', mpool', mp', ms', msel', mb', mm', ord', free', coin', worth') ∧ RG nT nB k ins outs P I sc p' L' dI dO pp pi O M tips lacc aacc' ids ic islot ifp iout isec ilock oc olock oamt fpc fpar fic fi bl h pph pih cp cf cb cs csel sq fo lam aam' ph' inp src idx sec outp lock amt mid mpc mpar hol held mbl mh mp' mb' ms' msel' mo mpool' ord' macc' free' coin' worth' := by
  have hR0 := hR
  obtain ⟨hSD, hPS, hD, hPL, hO, hF⟩ := hR
  have hS0 := hSD
  obtain ⟨hX, hY, hV, hB4, hBm, hI, hIm, hIt, hlk, hh⟩ := hS0
  have hT := hV.1
  have hB := hV.2.1
  obtain ⟨ms1, msel1, mm1, ord1, macc1, free1, coin1, worth1, mpool1, ms2, msel2, mm2, ord2, macc2, free2, coin2, worth2, mp1, mb1, mp2, mb2, u, u2, F2, W1, W2, W3, W4, W5, W6, W7, W8, W9, W10, W11, W12⟩ := resettle (mm := mm) (nI L.length) hSD hF
  obtain ⟨hDR, hVR, hF6, u0, u20, F20, r1, r2, r3, r4, r5, r6, r7, r8, r9, r10, r11⟩ := hF
  have e0 : (u0, lacc) = (u, lacc) := r1.symm.trans W5
  cases e0
  have e0 : (p, u20, aacc, F20) = (p, u2, aacc, F2) := r5.symm.trans W9
  cases e0
  have hp60 : ∀ t ∈ p, t < 1000 := fun t ht => by have := r11 t ht; omega
  obtain ⟨nd, nd2, nd3⟩ := flt_all p u u2 lacc aacc 0 F2 (fun t ht => by have := r11 t ht; omega) r5
  rcases e_has (n := nT) (by omega) x1 with ⟨a1, a2, a3, a4, a5⟩ | ⟨t, ht, rfl, a1, a2, a3, a4, a5⟩
  · refine ⟨-1, mm, p, L, aacc, aam, ph, mp, mb, ms, msel, mpool, ord, macc, free, coin, worth, ?_, ?_, hR0⟩
    · unfold m_bm_submit
      rw [a2, mo_bs, mo_T rfl]
    · unfold m_mm_submit
      rcases a5 with w | ⟨w1, w2⟩
      · rw [mo_T w]
      · rw [mo_F w1, mo_F (by rw [Int32.not_lt]; exact w2)]
  have hacc : m_le_hasAccepted aacc (nI t) = some (bI (tb aacc t)) := by
    unfold m_le_hasAccepted
    rw [e_holds' aacc (by omega), mo_bs, z_bI]
  have hlt : nI t < nI nT := nI_lt ht (by omega)
  have hmacc : macc t = bI (tb lacc t) := r3.2.2 t (by omega)
  have eor : (tb lacc t || pB (t ∈ p)) = tb aacc t := by
    cases q : tb aacc t with
    | true =>
      rcases (nd3 t).mp q with w | w
      · rw [w]; rfl
      · rw [pB_t w, Bool.or_true]
    | false =>
      have n1 : ¬ tb lacc t = true := fun w => by rw [(nd3 t).mpr (Or.inl w)] at q; cases q
      have n2 : ¬ t ∈ p := fun w => by rw [(nd3 t).mpr (Or.inr w)] at q; cases q
      rw [Bool.not_eq_true] at n1
      rw [n1, pB_f n2]
      rfl
  have hsub := e_subL23 (t := t) (tb lacc t) r9 r10 hp60 (by omega)
  rw [eor] at hsub
  cases q2 : tb aacc t with
  | true =>
    rw [q2] at hacc hsub
    refine ⟨-2, mm, p, L, aacc, aam, ph, mp, mb, ms, msel, mpool, ord, macc, free, coin, worth, ?_, ?_, hR0⟩
    · unfold m_bm_submit
      rw [a2, mo_bs, mo_F (by decide), hacc, mo_bs, mo_F (by decide)]
    · unfold m_mm_submit
      rw [mo_F a4, mo_T hlt, mo_rIn (by omega) (by decide), hmacc, hsub, mo_bs, mo_F (by decide)]
  | false =>
    rw [q2] at hacc hsub
    have hfee := e_feeOf (acc := aacc) (bl := bl) hX hV W10 W11.2.2.1 (by decide) ht
    have hfit := e_mfits (bl := mbl) hY hV W12 W11.2.2.1 (by decide) ht
    have hiff := okT_lk hX hY hV W11 hlk ht
    rw [pB_iff hiff] at hfit
    by_cases ok : okT u2 aacc olock bl (ins t) (outs t) t
    · rw [if_pos (pB_t ok)] at hfee
      rw [pB_t ok] at hfit
      have hnot : t ∉ p := fun w => by rw [(nd3 t).mpr (Or.inr w)] at q2; cases q2
      obtain ⟨A1, A2⟩ := e_addNew (n := 8) (x := t) r8 r10 (by decide) hp60 (by omega)
      have hsi := sumI_le hV ht W11.2.2.1
      by_cases c8 : p.length = 8
      · refine ⟨-4, mm2, p, L, aacc, aam, ph, mp2, mb2, ms2, msel2, mpool1, ord2, macc2, free2, coin2, worth2, ?_, ?_, hSD, hPS, hD, hPL, hO, W3⟩
        · unfold m_bm_submit
          rw [a2, mo_bs, mo_F (by decide), hacc, mo_bs, mo_T bI_f, hfee, mo_bs, mo_F (nI_nm1 (by omega)), A1 (Or.inl c8), mo_bs]
          exact mo_T rfl
        · unfold m_mm_submit
          rw [mo_F a4, mo_T hlt, mo_rIn (by omega) (by decide), hmacc, hsub, mo_bs, mo_T bI_f, W1, mo_bs]
          dsimp only
          rw [hfit, mo_bs, W2, mo_bs]
          dsimp only
          rw [mo_F (by decide), mo_T (show nI p.length = (8 : Int32) by rw [c8]; rfl)]
      · obtain ⟨B1, -⟩ := e_accept (acc := aacc) (bl := bl) hX hV W10 W11.2.2.1 (by decide) ht
        obtain ⟨am', C1, C2⟩ := B1 ok
        obtain ⟨L1, L2, L3⟩ := LV_tx hV W11 ht ok
        refine ⟨0, mm2, p ++ [t], L, aacc ||| bi t, am', upd ph p.length (nI t), mp2, mb2, ms2, msel2, upd mpool1 p.length (nI t), ord2, macc2, free2, coin2, worth2, ?_, ?_, hSD, hPS, hD, hPL, hO, W3.1, W3.2.1, W3.2.2.1, u, aft t (ins t) (outs t) u2, F2 + (sumI u2 (ins t) - sumO (outs t)), W5, W6, W7, W8, (flt_snoc ok p _ r5).trans (by rw [run1_t ok]), C2, LV_mono L1 (by omega), hL_snoc r8 t, hL_snoc W4 t, by rw [List.length_append]; simp; omega, fun s hs => ?_⟩
        · unfold m_bm_submit
          rw [a2, mo_bs, mo_F (by decide), hacc, mo_bs, mo_T bI_f, hfee, mo_bs, mo_F (nI_nm1 (by omega)), A2 ⟨by omega, hnot⟩, mo_bs]
          dsimp only
          rw [mo_F (by decide), C1, mo_bs]
        · unfold m_mm_submit
          rw [mo_F a4, mo_T hlt, mo_rIn (by omega) (by decide), hmacc, hsub, mo_bs, mo_T bI_f, W1, mo_bs]
          dsimp only
          rw [hfit, mo_bs, W2, mo_bs]
          dsimp only
          rw [mo_F (by decide), mo_F (show ¬ nI p.length = (8 : Int32) from N_eq (b := 8) c8 (by omega) (by decide)), mo_wIn (by omega) (by decide), ← nI_succ, List.length_append]
          rfl
        · rcases List.mem_append.mp hs with w | w
          · exact r11 s w
          · rw [List.mem_singleton.mp w]; exact ht
    · rw [if_neg (by rw [pB_f ok]; decide)] at hfee
      rw [pB_f ok] at hfit
      refine ⟨-3, mm2, p, L, aacc, aam, ph, mp2, mb2, ms2, msel2, mpool1, ord2, macc2, free2, coin2, worth2, ?_, ?_, hSD, hPS, hD, hPL, hO, W3⟩
      · unfold m_bm_submit
        rw [a2, mo_bs, mo_F (by decide), hacc, mo_bs, mo_T bI_f, hfee, mo_bs, mo_T rfl]
      · unfold m_mm_submit
        rw [mo_F a4, mo_T hlt, mo_rIn (by omega) (by decide), hmacc, hsub, mo_bs, mo_T bI_f, W1, mo_bs]
        dsimp only
        rw [hfit, mo_bs, W2, mo_bs]
        dsimp only
        rw [mo_T bI_f]
