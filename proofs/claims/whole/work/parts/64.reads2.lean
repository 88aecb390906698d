/-! count, total, wanted -/
theorem cnt_sel (x : Int32) {A0 A1 A2 A3 A4 A5 A6 A7 A8 A9 B0 B1 B2 B3 B4 B5 B6 B7 B8 B9 : Option Int32} (h0 : ∃ o, A0 = some o ∧ B0 = some o) (h1 : ∃ o, A1 = some o ∧ B1 = some o) (h2 : ∃ o, A2 = some o ∧ B2 = some o) (h3 : ∃ o, A3 = some o ∧ B3 = some o) (h4 : ∃ o, A4 = some o ∧ B4 = some o) (h5 : ∃ o, A5 = some o ∧ B5 = some o) (h6 : ∃ o, A6 = some o ∧ B6 = some o) (h7 : ∃ o, A7 = some o ∧ B7 = some o) (h8 : ∃ o, A8 = some o ∧ B8 = some o) (h9 : ∃ o, A9 = some o ∧ B9 = some o) : ∃ o, mo_br (x = 0) A0 (mo_br (x = 1) A1 (mo_br (x = 2) A2 (mo_br (x = 3) A3 (mo_br (x = 4) A4 (mo_br (x = 5) A5 (mo_br (x = 6) A6 (mo_br (x = 7) A7 (mo_br (x = 8) A8 (mo_br (x = 9) A9 (some (-1))))))))))) = some o ∧ mo_br (4 ≤ x) (mo_br (7 ≤ x) (mo_br (x = 7) B7 (mo_br (x = 8) B8 (mo_br (x = 9) B9 (some (-1))))) (mo_br (x = 4) B4 (mo_br (x = 5) B5 B6))) (mo_br (x = 0) B0 (mo_br (x = 1) B1 (mo_br (x = 2) B2 (mo_br (x = 3) B3 (some (-1)))))) = some o := by
  by_cases z0 : x = 0
  · subst z0; exact h0
  by_cases z1 : x = 1
  · subst z1; exact h1
  by_cases z2 : x = 2
  · subst z2; exact h2
  by_cases z3 : x = 3
  · subst z3; exact h3
  by_cases z4 : x = 4
  · subst z4; exact h4
  by_cases z5 : x = 5
  · subst z5; exact h5
  by_cases z6 : x = 6
  · subst z6; exact h6
  by_cases z7 : x = 7
  · subst z7; exact h7
  by_cases z8 : x = 8
  · subst z8; exact h8
  by_cases z9 : x = 9
  · subst z9; exact h9
  rw [mo_F z0, mo_F z1, mo_F z2, mo_F z3, mo_F z4, mo_F z5, mo_F z6, mo_F z7, mo_F z8, mo_F z9, mo_F z0, mo_F z1, mo_F z2, mo_F z3, mo_F z4, mo_F z5, mo_F z7, mo_F z8, mo_F z9]
  refine ⟨-1, rfl, ?_⟩
  by_cases n4 : (4 : Int32) ≤ x
  · rw [mo_T n4]
    by_cases n7 : (7 : Int32) ≤ x
    · rw [mo_T n7]
    · exfalso
      have n1 : ¬ x < 0 := by
        intro w
        rw [Int32.lt_iff_toInt_lt] at w
        rw [Int32.le_iff_toInt_le] at n4
        exact absurd (Int.lt_of_le_of_lt n4 w) (by decide)
      obtain ⟨j, hj, rfl⟩ := nI_of n1
      have j4 : 4 ≤ j := (nI_leI (by decide : 4 < 2 ^ 31) hj).mp n4
      have j7 : ¬ 7 ≤ j := fun w => n7 ((nI_leI (by decide : 7 < 2 ^ 31) hj).mpr w)
      have q4 : j ≠ 4 := fun e => z4 (by rw [e]; rfl)
      have q5 : j ≠ 5 := fun e => z5 (by rw [e]; rfl)
      have q6 : j ≠ 6 := fun e => z6 (by rw [e]; rfl)
      omega
  · rw [mo_F n4]
theorem e_cntL4 {n : Nat} {acc : Int64} {macc : Nat → Int32} (hn : n ≤ 40) (h : ∀ t, t < 40 → macc t = bI (tb acc t)) : mo_lp (m_mm_count_L4 (nI n) macc) 1000 (0, 0) = some (nI (cnt acc n)) :=
  so_eq (lp_ix n (fun j z => z = (nI (cnt acc j), nI j)) (fun o => o = nI (cnt acc n)) (by
    intro back j z hj hz ih
    subst hz
    unfold m_mm_count_L4
    dsimp only
    by_cases e : j = n
    · subst e
      rw [mo_T (nI_le (Nat.le_refl _) (by omega))]
      exact ⟨_, rfl, rfl⟩
    · rw [mo_F (nI_ge (by omega) (by omega)), mo_rIn (by omega) (by decide), h j (by omega), mo_js]
      cases t : tb acc j with
      | true =>
        rw [mo_b1, ← nI_succ, ← nI_succ, ← cnt_t t]
        exact ih _ (by omega) rfl
      | false =>
        rw [mo_b0, ← nI_succ]
        exact ih _ (by omega) (by rw [cnt_f (by rw [t]; exact Bool.false_ne_true)])) 1000 0 (0, 0) (Nat.zero_le _) rfl (by omega))
theorem cnt_core {nT nB k : Nat} {P : Nat → List Nat} {sc : Nat → Nat} {L O p : List Nat} {M tips lacc : Int64} {ids mid cs csel ms msel macc mpc mpar : Nat → Int32} {cp cb cf mp mb : Nat → Int64} (x1 : Int32) (hT : nT ≤ 40) (hB : nB ≤ 60) (hBm : BP 4 nB P mpc mpar) (hR : DR nB k P M tips sc cs csel cp cb cf ms msel mp mb) (v1 : ms 60 = cs 60) (v2 : msel 60 = csel 60) (s1 : m_dg_size M = some (nI L.length)) (v6 : L.length = cnt M 60) (ha : ∀ t, t < 40 → macc t = bI (tb lacc t)) (hl : ∀ t, tb lacc t = true → t < nT) (hid : ∀ t, t < nT → mid t = ids t) : ∃ o : Int32, m_bm_count (nI nT) (nI nB) M tips (nI O.length) (nI p.length) lacc cs csel ids x1 = some o ∧ m_mm_count (nI nT) (nI nB) M (nI O.length) (nI p.length) macc mpc mpar ms msel mid x1 = some o := by
  have d3 := hR.1.2.2.1
  have e4 := hR.2.2.2.2.2.1
  obtain ⟨T, t1, t2⟩ := e_tips hBm hB d3
  have hTt : T = tips := tb_iff (fun y => (t2 y).trans (e4 y).symm)
  rw [hTt] at t1
  have r60 : ∀ {γ : Type} {f : Nat → Int32} {kk : Int32 → Option γ}, mo_rI f 61 60 kk = kk (f 60) := fun {γ f kk} => mo_rIn (j := 60) (by decide) (by decide)
  have c6 : cnt lacc 64 = cnt lacc nT := cnt_more (by omega) (fun b h1 _ => by
    cases w : tb lacc b with
    | false => rfl
    | true => have := hl b w; omega)
  have c3 : cnt tips 64 = cnt tips 60 := cnt_more (by decide) (fun b h1 _ => by
    cases w : tb tips b with
    | false => rfl
    | true => have := d3 b ((e4 b).mp w).1; omega)
  unfold m_bm_count m_mm_count
  rw [e_cntL4 hT ha, mo_bs]
  refine cnt_sel x1 ⟨_, rfl, rfl⟩ ⟨_, rfl, rfl⟩ ?_ ?_ ⟨_, rfl, rfl⟩ ⟨_, rfl, rfl⟩ ?_ ?_ ?_ ?_
  · rw [s1, mo_bs, e_many, mo_bs, v6]; exact ⟨_, rfl, rfl⟩
  · rw [e_bitCount, mo_bs, t1, mo_bs, e_many, mo_bs, c3]; exact ⟨_, rfl, rfl⟩
  · rw [e_bitCount, mo_bs, c6]; exact ⟨_, rfl, rfl⟩
  · rw [r60, r60, v1]; exact ⟨_, rfl, rfl⟩
  · rw [r60, r60, v2]; exact ⟨_, rfl, rfl⟩
  · unfold m_tr_lastId
    by_cases z : nT = 0
    · subst z
      rw [mo_T nI_0, mo_bs, mo_T nI_0]; exact ⟨_, rfl, rfl⟩
    · obtain ⟨m, rfl⟩ : ∃ m, nT = m + 1 := ⟨nT - 1, by omega⟩
      rw [mo_F (nI_ne0 (by omega) (by omega)), mo_F (nI_ne0 (by omega) (by omega)), nI_pred, mo_rIn (by omega) (by decide), mo_rIn (by omega) (by decide), mo_bs, hid m (by omega)]
      exact ⟨_, rfl, rfl⟩
theorem op_count {nT nB k : Nat} {ins : Nat → List (Nat × Nat × Int32)} {outs : Nat → List (Int32 × Nat)} {P I : Nat → List Nat} {sc : Nat → Nat} {p L : List Nat} {dI : List (Nat × Nat × Int32)} {dO : List (Int32 × Nat)} {pp pi O : List Nat} {M tips lacc aacc : Int64} {ids ic islot ifp iout isec ilock oc olock oamt fpc fpar fic fi bl h pph pih : Nat → Int32} {cp cf cb : Nat → Int64} {cs csel sq fo lam aam ph inp src idx sec outp lock amt mid mpc mpar hol held mbl mh : Nat → Int32} {mp mb : Nat → Int64} {ms msel mo mpool ord macc free coin worth : Nat → Int32} (x1 : Int32) (hR : RG nT nB k ins outs P I sc p L dI dO pp pi O M tips lacc aacc ids ic islot ifp iout isec ilock oc olock oamt fpc fpar fic fi bl h pph pih cp cf cb cs csel sq fo lam aam ph inp src idx sec outp lock amt mid mpc mpar hol held mbl mh mp mb ms msel mo mpool ord macc free coin worth) : ∃ o : Int32, m_bm_count (nI nT) (nI nB) M tips (nI O.length) (nI p.length) lacc cs csel ids x1 = some o ∧ m_mm_count (nI nT) (nI nB) M (nI O.length) (nI p.length) macc mpc mpar ms msel mid x1 = some o := by
  obtain ⟨s1, s2, s3, s4, s5⟩ := fr_size hR
  obtain ⟨⟨hX, hY, hV, hB4, hBm, hI, hIm, hIt, hlk, hh⟩, hPS, hD, hPL, hO, hDR, hVR, hF6, u, u2, F2, r1, r2, r3, r4, hF⟩ := hR
  exact cnt_core x1 hV.1 hV.2.1 hBm hDR hVR.1 hVR.2.1 s1 hVR.2.2.2.2.2.1 r3.2.2 r4.2.2.2 hD.1
theorem sumU_mono {u : Nat → Option Nat} {m : Nat} : ∀ {n : Nat}, m ≤ n → sumU u m ≤ sumU u n := by
  intro n
  induction n with
  | zero => intro h; rw [show m = 0 by omega]; exact Nat.le_refl _
  | succ n ih =>
    intro h
    by_cases e : m = n + 1
    · rw [e]; exact Nat.le_refl _
    · exact Nat.le_trans (ih (by omega)) (Nat.le_add_right _ _)
theorem sumU_flat {u : Nat → Option Nat} {m : Nat} : ∀ {n : Nat}, m ≤ n → (∀ j, m ≤ j → j < n → u j = none) → sumU u n = sumU u m := by
  intro n
  induction n with
  | zero => intro h _; rw [show m = 0 by omega]
  | succ n ih =>
    intro h hz
    by_cases e : m = n + 1
    · rw [e]
    · show sumU u n + (u n).getD 0 = _
      rw [hz n (by omega) (by omega), ih (by omega) (fun j h1 h2 => hz j h1 (by omega))]
      rfl
theorem mo_max_o {x : Option Nat} (h : ∀ v, x = some v → v < 2 ^ 31) : mo_max (oI x) 0 = nI (x.getD 0) := by
  cases x with
  | none => rfl
  | some v => exact max_f v (h v rfl)
theorem e_sum {u : Nat → Option Nat} {lam : Nat → Int32} (h : LC u lam) (hs : sumU u 140 ≤ 3840) : m_le_sum lam = some (nI (sumU u 140)) := by
  have hv : ∀ j, j < 140 → ∀ v, u j = some v → v < 2 ^ 31 := by
    intro j hj v hv
    have := sumU_ge (u := u) hj
    rw [hv] at this
    have e : (some v : Option Nat).getD 0 = v := rfl
    omega
  have hl : mo_lp (m_le_sum_L4 lam) 1000 (0, 0) = some (nI (sumU u 140)) := so_eq (lp_ix 140 (fun j z => z = (nI (sumU u j), nI j)) (fun o => o = nI (sumU u 140)) (by
    intro back j z hj hz ih
    subst hz
    unfold m_le_sum_L4
    dsimp only
    by_cases e : j = 140
    · subst e
      rw [mo_T (by decide)]
      exact ⟨_, rfl, rfl⟩
    · rw [mo_F (show ¬ (140 : Int32) ≤ nI j from nI_ge (b := 140) (by omega) (by decide)), mo_rIn (by omega) (by decide), h j (by omega), mo_max_o (hv j (by omega)), nI_add, ← nI_succ]
      exact ih _ (by omega) rfl) 1000 0 (0, 0) (by decide) rfl (by decide))
  unfold m_le_sum
  rw [hl, mo_bs]
theorem e_totL14 {u : Nat → Option Nat} {acc : Int64} {amt free coin worth macc : Nat → Int32} (hM : LM u acc amt free coin worth macc) {t : Nat} (ht : t < 40) : mo_lp (m_mm_total_L14 free amt (nI t)) 1000 (nI (sumU u (2 * t)), 0) = some (nI (sumU u (2 * (t + 1)))) :=
  so_eq (lp_ix 2 (fun j z => z = (nI (sumU u (2 * t + j)), nI j)) (fun o => o = nI (sumU u (2 * (t + 1)))) (by
    intro back j z hj hz ih
    subst hz
    unfold m_mm_total_L14
    dsimp only
    by_cases e : j = 2
    · subst e
      rw [mo_T (by decide)]
      exact ⟨_, rfl, rfl⟩
    · obtain ⟨f1, f2⟩ := hM.1 (2 * t + j) (by omega)
      rw [mo_F (show ¬ (2 : Int32) ≤ nI j from nI_ge (b := 2) (by omega) (by decide)), show (2 : Int32) * nI t + nI j = nI (2 * t + j) from ix_m 2 t j, mo_rIn (by omega) (by decide), f1, mo_js]
      cases q : u (2 * t + j) with
      | none =>
        rw [show (none : Option Nat).isSome = false from rfl, mo_b0, ← nI_succ]
        refine ih _ (by omega) ?_
        show _ = (nI (sumU u (2 * t + j) + (u (2 * t + j)).getD 0), _)
        rw [q]
        rfl
      | some v =>
        rw [show (some v : Option Nat).isSome = true from rfl, mo_b1, mo_rIn (by omega) (by decide), f2 v q, nI_add, ← nI_succ]
        refine ih _ (by omega) ?_
        show _ = (nI (sumU u (2 * t + j) + (u (2 * t + j)).getD 0), _)
        rw [q]
        rfl) 1000 0 _ (by decide) rfl (by decide))
theorem e_totL4 {u : Nat → Option Nat} {acc : Int64} {amt free coin worth macc : Nat → Int32} (hM : LM u acc amt free coin worth macc) {n : Nat} (hn : n ≤ 40) : mo_lp (m_mm_total_L4 (nI n) free amt) 1000 (0, 0) = some (nI (sumU u (2 * n))) :=
  so_eq (lp_ix n (fun j z => z = (nI (sumU u (2 * j)), nI j)) (fun o => o = nI (sumU u (2 * n))) (by
    intro back j z hj hz ih
    subst hz
    unfold m_mm_total_L4
    dsimp only
    by_cases e : j = n
    · subst e
      rw [mo_T (nI_le (Nat.le_refl _) (by omega))]
      exact ⟨_, rfl, rfl⟩
    · rw [mo_F (nI_ge (by omega) (by omega)), e_totL14 hM (by omega), mo_bs, ← nI_succ]
      exact ih _ (by omega) rfl) 1000 0 (0, 0) (Nat.zero_le _) rfl (by omega))
theorem e_totL63 {u : Nat → Option Nat} {acc : Int64} {amt free coin worth macc : Nat → Int32} (hM : LM u acc amt free coin worth macc) {n : Nat} (hn : n ≤ 60) : mo_lp (m_mm_total_L63 (nI n) coin worth) 1000 (nI (sumU u 80), 0) = some (nI (sumU u (80 + n))) :=
  so_eq (lp_ix n (fun j z => z = (nI (sumU u (80 + j)), nI j)) (fun o => o = nI (sumU u (80 + n))) (by
    intro back j z hj hz ih
    subst hz
    unfold m_mm_total_L63
    dsimp only
    by_cases e : j = n
    · subst e
      rw [mo_T (nI_le (Nat.le_refl _) (by omega))]
      exact ⟨_, rfl, rfl⟩
    · obtain ⟨f1, f2⟩ := hM.2.1 j (by omega)
      rw [mo_F (nI_ge (by omega) (by omega)), mo_rIn (by omega) (by decide), f1, mo_js]
      cases q : u (80 + j) with
      | none =>
        rw [show (none : Option Nat).isSome = false from rfl, mo_b0, ← nI_succ]
        refine ih _ (by omega) ?_
        show _ = (nI (sumU u (80 + j) + (u (80 + j)).getD 0), _)
        rw [q]
        rfl
      | some v =>
        rw [show (some v : Option Nat).isSome = true from rfl, mo_b1, mo_rIn (by omega) (by decide), f2 v q, nI_add, ← nI_succ]
        refine ih _ (by omega) ?_
        show _ = (nI (sumU u (80 + j) + (u (80 + j)).getD 0), _)
        rw [q]
        rfl) 1000 0 _ (by omega) rfl (by omega))
theorem op_total {nT nB k : Nat} {ins : Nat → List (Nat × Nat × Int32)} {outs : Nat → List (Int32 × Nat)} {P I : Nat → List Nat} {sc : Nat → Nat} {p L : List Nat} {dI : List (Nat × Nat × Int32)} {dO : List (Int32 × Nat)} {pp pi O : List Nat} {M tips lacc aacc : Int64} {ids ic islot ifp iout isec ilock oc olock oamt fpc fpar fic fi bl h pph pih : Nat → Int32} {cp cf cb : Nat → Int64} {cs csel sq fo lam aam ph inp src idx sec outp lock amt mid mpc mpar hol held mbl mh : Nat → Int32} {mp mb : Nat → Int64} {ms msel mo mpool ord macc free coin worth : Nat → Int32} (hR : RG nT nB k ins outs P I sc p L dI dO pp pi O M tips lacc aacc ids ic islot ifp iout isec ilock oc olock oamt fpc fpar fic fi bl h pph pih cp cf cb cs csel sq fo lam aam ph inp src idx sec outp lock amt mid mpc mpar hol held mbl mh mp mb ms msel mo mpool ord macc free coin worth) : ∃ o : Int32, m_bm_total lam = some o ∧ m_mm_total (nI nT) (nI nB) free amt coin worth = some o := by
  obtain ⟨⟨hX, hY, hV, hS⟩, hPS, hD, hPL, hO, hDR, hVR, hF6, u, u2, F2, r1, r2, r3, r4, hF⟩ := hR
  have hT := hV.1
  have hB := hV.2.1
  have q1 : sumU u 80 = sumU u (2 * nT) := sumU_flat (by omega) (fun j h1 h2 => by
    cases q : u j with
    | none => rfl
    | some v =>
      have e : 2 * (j / 2) + j % 2 = j := Nat.div_add_mod j 2
      rw [← e] at q
      have := (r4.1 (j / 2) (j % 2) v (by omega) (by omega) q).1
      omega)
  have q2 : sumU u 140 = sumU u (80 + nB) := sumU_flat (by omega) (fun j h1 h2 => by
    cases q : u j with
    | none => rfl
    | some v =>
      have e : 80 + (j - 80) = j := by omega
      rw [← e] at q
      have := r4.2.1 (j - 80) v (by omega) q
      omega)
  unfold m_bm_total m_mm_total
  rw [e_sum r2 r4.2.2.1, mo_bs, e_totL4 r3 hT, mo_bs, ← q1, e_totL63 r3 hB, mo_bs, ← q2]
  exact ⟨_, rfl, rfl⟩
theorem e_miss {nB : Nat} {M : Int64} {O : List Nat} {P : Nat → List Nat} {fo fpc fpar : Nat → Int32} (hB : nB ≤ 60) (h1 : hL fo O) (h2 : O.length ≤ 4) (h3 : ∀ b ∈ O, b < nB) (hP : BP 4 nB P fpc fpar) : ∃ r : Int64, m_bm_missingParents M (nI O.length) fo fpc fpar = some r ∧ ∀ y, y < 60 → (tb r y = true ↔ (∃ b ∈ O, y ∈ P b) ∧ tb M y = false ∧ y ∉ O) := by
  have hPb : ∀ b ∈ O, ∀ y ∈ P b, y < 64 := by
    intro b hb y hy
    obtain ⟨k, hk, e⟩ := List.getElem_of_mem hy
    have := ((hP b (h3 b hb)).2.2 k y (by rw [List.getElem?_eq_getElem hk, e])).2
    omega
  obtain ⟨⟨o1, o2⟩, p1, p2⟩ := lp_ix (step := m_bm_missingParents_L13 (nI O.length) fo fpc fpar) O.length (fun j z => ∃ a c : Int64, z = (a, c, nI j) ∧ ∀ y, y < 64 → ((tb a y = true ↔ ∃ b ∈ O.take j, y ∈ P b) ∧ (tb c y = true ↔ tb M y = true ∨ y ∈ O.take j))) (fun o => ∀ y, y < 64 → ((tb o.1 y = true ↔ ∃ b ∈ O, y ∈ P b) ∧ (tb o.2 y = true ↔ tb M y = true ∨ y ∈ O))) (by
    intro back j z hj hz ih
    obtain ⟨a, c, rfl, hz⟩ := hz
    unfold m_bm_missingParents_L13
    dsimp only
    by_cases e : j = O.length
    · subst e
      rw [List.take_length] at hz
      rw [mo_T (nI_le (Nat.le_refl _) (by omega))]
      exact ⟨_, rfl, hz⟩
    · have hj2 : j < O.length := by omega
      have hat : m_nu_at (nI O.length) fo 4 (nI j) = some (nI O[j]) := by
        unfold m_nu_at
        rw [mo_F (nI_pos (by omega)), mo_F (nI_ge hj2 (by omega)), mo_rIn (by omega) (by decide), h1 j _ (List.getElem?_eq_getElem hj2)]
      have hm : O[j] ∈ O := List.getElem_mem hj2
      have hb := h3 _ hm
      rw [mo_F (nI_ge hj2 (by omega)), hat, mo_bs, e_parentSet hP hB hb, mo_bs, mo_bs, e_bit, mo_bs, ← nI_succ]
      refine ih _ hj2 ⟨_, _, rfl, fun y hy => ?_⟩
      obtain ⟨i1, i2⟩ := hz y hy
      have ht : O.take (j + 1) = O.take j ++ [O[j]] := (List.take_append_getElem hj2).symm
      rw [tb_or, tb_or, Bool.or_eq_true, Bool.or_eq_true, i1, i2, so_mem (hPb _ hm), tb_bi (by omega), decide_eq_true_iff, ht]
      constructor
      · constructor
        · rintro (⟨b, q1, q2⟩ | q)
          · exact ⟨b, List.mem_append_left _ q1, q2⟩
          · exact ⟨O[j], List.mem_append_right _ (List.mem_singleton.mpr rfl), q⟩
        · rintro ⟨b, q1, q2⟩
          rcases List.mem_append.mp q1 with w | w
          · exact Or.inl ⟨b, w, q2⟩
          · rw [List.mem_singleton] at w
            rw [w] at q2
            exact Or.inr q2
      · rw [List.mem_append, List.mem_singleton, or_assoc]) 1000 0 (0, M, 0) (Nat.zero_le _) ⟨0, M, rfl, fun y _ => ⟨by rw [tb_0, List.take_zero]; exact ⟨fun w => (by cases w), fun ⟨b, w, _⟩ => absurd w List.not_mem_nil⟩, by rw [List.take_zero]; exact ⟨Or.inl, fun w => w.elim id (fun q => absurd q List.not_mem_nil)⟩⟩⟩ (by omega)
  unfold m_bm_missingParents
  rw [p1, mo_bs]
  refine ⟨_, rfl, fun y hy => ?_⟩
  obtain ⟨i1, i2⟩ := p2 y (by omega)
  have i2 : tb o2 y = true ↔ tb M y = true ∨ y ∈ O := i2
  have i1 : tb o1 y = true ↔ ∃ b ∈ O, y ∈ P b := i1
  rw [tb_and, tb_not _ (by omega), Bool.and_eq_true, i1, Bool.not_eq_true']
  refine and_congr Iff.rfl ⟨fun w => ?_, fun w => ?_⟩
  · have n : ¬ (tb M y = true ∨ y ∈ O) := fun v => by rw [i2.mpr v] at w; cases w
    exact ⟨Bool.eq_false_iff.mpr (fun v => n (Or.inl v)), fun v => n (Or.inr v)⟩
  · cases v : tb o2 y with
    | false => rfl
    | true =>
      rcases i2.mp v with q | q
      · rw [w.1] at q; cases q
      · exact absurd q w.2
theorem e_wL30 {n b : Nat} {P : Nat → List Nat} {fc fe mo : Nat → Int32} {O : List Nat} {i y : Nat} (h : BP 4 n P fc fe) (hn : n ≤ 60) (hO : ∀ c ∈ O, c < n) (hl : O.length ≤ 4) (hm : hL mo O) (hi : O[i]? = some b) (hy : y < 60) (c : Bool) : mo_lp (m_mm_wanted_L30 mo fc fe (nI y) (nI i)) 1000 (bI c, 0) = some (bI (c || pB (y ∈ P b))) := by
  have hil : i < O.length := by
    rcases Nat.lt_or_ge i O.length with w | w
    · exact w
    · rw [List.getElem?_eq_none w] at hi; cases hi
  have hbO : b ∈ O := List.mem_of_getElem? hi
  have hb := hO b hbO
  obtain ⟨q1, q2, q3⟩ := h b hb
  refine so_eq (lp_ix (P b).length (fun j z => z = (bI (c || pB (y ∈ (P b).take j)), nI j)) (fun o => o = bI (c || pB (y ∈ P b))) (by
    intro back j z hj hz ih
    subst hz
    unfold m_mm_wanted_L30
    dsimp only
    rw [mo_rIn (by omega) (by decide), hm i b hi, mo_rIn (by omega) (by decide), q1]
    by_cases e : j = (P b).length
    · subst e
      rw [mo_T (nI_le (Nat.le_refl _) (by omega)), List.take_length]
      exact ⟨_, rfl, rfl⟩
    · have hj2 : j < (P b).length := by omega
      obtain ⟨g1, g2⟩ := q3 j _ (List.getElem?_eq_getElem hj2)
      rw [mo_F (nI_ge hj2 (by omega))]
      simp only [mo_js]
      cases t : (c || pB (y ∈ (P b).take j)) with
      | true =>
        rw [mo_b1, ← nI_succ]
        refine ih _ hj2 ?_
        have : (c || pB (y ∈ (P b).take (j + 1))) = true := by
          rw [Bool.or_eq_true] at t ⊢
          rcases t with t | t
          · exact Or.inl t
          · refine Or.inr (pB_t ?_)
            rw [← List.take_append_getElem hj2]
            exact List.mem_append_left _ (pB_of t)
        rw [this]
        rfl
      | false =>
        rw [mo_b0, mo_rIn (by omega) (by decide), hm i b hi, show (4 : Int32) * nI b + nI j = nI (4 * b + j) from ix_m 4 b j, mo_rIn (by omega) (by decide), g1]
        rw [Bool.or_eq_false_iff] at t
        by_cases w : (P b)[j] = y
        · rw [mo_T (by rw [w]), ← nI_succ]
          refine ih _ hj2 ?_
          have : y ∈ (P b).take (j + 1) := by
            rw [← List.take_append_getElem hj2, w]
            exact List.mem_append_right _ (List.mem_singleton.mpr rfl)
          rw [pB_t this, Bool.or_true]
          rfl
        · rw [mo_F (N_eq w (by omega) (by omega)), ← nI_succ]
          refine ih _ hj2 ?_
          have : ¬ y ∈ (P b).take (j + 1) := by
            rw [← List.take_append_getElem hj2, List.mem_append, List.mem_singleton]
            rintro (v | v)
            · exact pB_nof t.2 v
            · exact w v.symm
          rw [pB_f this, t.1]
          rfl) 1000 0 (bI c, 0) (Nat.zero_le _) ?_ (by omega))
  rw [List.take_zero, pB_f (List.not_mem_nil), Bool.or_false]
  rfl
theorem e_wL18 {n : Nat} {P : Nat → List Nat} {fc fe mo : Nat → Int32} {O : List Nat} {y : Nat} (h : BP 4 n P fc fe) (hn : n ≤ 60) (hO : ∀ c ∈ O, c < n) (hl : O.length ≤ 4) (hm : hL mo O) (hy : y < 60) : mo_lp (m_mm_wanted_L18 (nI O.length) mo fc fe (nI y)) 1000 (0, 0) = some (bI (pB (∃ b ∈ O, y ∈ P b))) := by
  refine so_eq (lp_ix O.length (fun j z => z = (bI (pB (∃ b ∈ O.take j, y ∈ P b)), nI j)) (fun o => o = bI (pB (∃ b ∈ O, y ∈ P b))) (by
    intro back j z hj hz ih
    subst hz
    unfold m_mm_wanted_L18
    dsimp only
    by_cases e : j = O.length
    · subst e
      rw [mo_T (nI_le (Nat.le_refl _) (by omega)), List.take_length]
      exact ⟨_, rfl, rfl⟩
    · have hj2 : j < O.length := by omega
      rw [mo_F (nI_ge hj2 (by omega)), e_wL30 h hn hO hl hm (List.getElem?_eq_getElem hj2) hy, mo_bs, ← nI_succ]
      refine ih _ hj2 ?_
      have key : (pB (∃ b ∈ O.take j, y ∈ P b) || pB (y ∈ P O[j])) = pB (∃ b ∈ O.take (j + 1), y ∈ P b) := by
        by_cases q : ∃ b ∈ O.take (j + 1), y ∈ P b
        · rw [pB_t q]
          obtain ⟨b, w1, w2⟩ := q
          rw [← List.take_append_getElem hj2, List.mem_append, List.mem_singleton] at w1
          rcases w1 with w | w
          · rw [pB_t ⟨b, w, w2⟩]; rfl
          · rw [w] at w2
            rw [pB_t w2, Bool.or_true]
        · rw [pB_f q, pB_f (fun ⟨b, w1, w2⟩ => q ⟨b, by rw [← List.take_append_getElem hj2]; exact List.mem_append_left _ w1, w2⟩), pB_f (fun w => q ⟨O[j], by rw [← List.take_append_getElem hj2]; exact List.mem_append_right _ (List.mem_singleton.mpr rfl), w⟩)]
          rfl
      rw [key]) 1000 0 (0, 0) (Nat.zero_le _) ?_ (by omega))
  rw [List.take_zero, pB_f (fun ⟨b, w, _⟩ => List.not_mem_nil w)]
  rfl
theorem wnt_core {nB : Nat} {M r : Int64} {O : List Nat} {P : Nat → List Nat} {mo mpc mpar : Nat → Int32} (x1 : Int32) (hB : nB ≤ 60) (o2 : hL mo O) (o3 : O.length ≤ 4) (o4 : ∀ b ∈ O, b < nB) (hBm : BP 4 nB P mpc mpar) (hPS : ∀ b, b < nB → ∀ p ∈ P b, p < b) (hr : ∀ y, y < 60 → (tb r y = true ↔ (∃ b ∈ O, y ∈ P b) ∧ tb M y = false ∧ y ∉ O)) : ∃ o : Int32, mo_lp (m_bm_wanted_L11 x1 r) 1000 (0, 0) = some o ∧ m_mm_wanted (nI nB) M (nI O.length) mo mpc mpar x1 = some o := by
  have hO60 : ∀ y ∈ O, y < 1000 := fun y hy => by have := o4 y hy; omega
  have tail : ∀ n j c f, j + n = 60 → nB ≤ j → n < f → mo_lp (m_bm_wanted_L11 x1 r) f (c, nI j) = some (-1) := by
    intro n
    induction n with
    | zero =>
      intro j c f hj hk hf
      obtain ⟨f, rfl⟩ : ∃ a, f = a + 1 := ⟨f - 1, by omega⟩
      show m_bm_wanted_L11 x1 r (mo_lp (m_bm_wanted_L11 x1 r) f) (c, nI j) = _
      unfold m_bm_wanted_L11
      dsimp only
      rw [mo_T (show (60 : Int32) ≤ nI j from nI_le (a := 60) (by omega) (by omega))]
    | succ n ih =>
      intro j c f hj hk hf
      obtain ⟨f, rfl⟩ : ∃ a, f = a + 1 := ⟨f - 1, by omega⟩
      have I := ih (j + 1) c f (by omega) (by omega) (by omega)
      show m_bm_wanted_L11 x1 r (mo_lp (m_bm_wanted_L11 x1 r) f) (c, nI j) = _
      generalize mo_lp (m_bm_wanted_L11 x1 r) f = b1 at I ⊢
      unfold m_bm_wanted_L11
      dsimp only
      have t : tb r j = false := by
        cases w : tb r j with
        | false => rfl
        | true =>
          obtain ⟨⟨b, w1, w2⟩, -⟩ := (hr j (by omega)).mp w
          have := hPS b (o4 b w1) j w2
          have := o4 b w1
          omega
      rw [mo_F (show ¬ (60 : Int32) ≤ nI j from nI_ge (b := 60) (by omega) (by decide)), e_holds' _ (by omega), mo_bs, mo_js, t, mo_b0, ← nI_succ]
      exact I
  have key : ∀ n j (c : Int32) f g, j + n = nB → 100 < f → n < g → n + 100 < f → ∃ o, mo_lp (m_bm_wanted_L11 x1 r) f (c, nI j) = some o ∧ mo_lp (m_mm_wanted_L4 (nI nB) M (nI O.length) mo mpc mpar x1) g (c, nI j) = some o := by
    intro n
    induction n with
    | zero =>
      intro j c f g hj hf hg hf2
      obtain ⟨g, rfl⟩ : ∃ a, g = a + 1 := ⟨g - 1, by omega⟩
      refine ⟨-1, tail (60 - j) j c f (by omega) (by omega) (by omega), ?_⟩
      show m_mm_wanted_L4 (nI nB) M (nI O.length) mo mpc mpar x1 (mo_lp (m_mm_wanted_L4 (nI nB) M (nI O.length) mo mpc mpar x1) g) (c, nI j) = _
      unfold m_mm_wanted_L4
      dsimp only
      rw [mo_T (nI_le (by omega) (by omega))]
    | succ n ih =>
      intro j c f g hj hf hg hf2
      obtain ⟨f, rfl⟩ : ∃ a, f = a + 1 := ⟨f - 1, by omega⟩
      obtain ⟨g, rfl⟩ : ∃ a, g = a + 1 := ⟨g - 1, by omega⟩
      obtain ⟨p0, I1, I2⟩ := ih (j + 1) c f g (by omega) (by omega) (by omega) (by omega)
      obtain ⟨p1, J1, J2⟩ := ih (j + 1) (c + 1) f g (by omega) (by omega) (by omega) (by omega)
      show ∃ o, m_bm_wanted_L11 x1 r (mo_lp (m_bm_wanted_L11 x1 r) f) (c, nI j) = some o ∧ m_mm_wanted_L4 (nI nB) M (nI O.length) mo mpc mpar x1 (mo_lp (m_mm_wanted_L4 (nI nB) M (nI O.length) mo mpc mpar x1) g) (c, nI j) = some o
      generalize mo_lp (m_bm_wanted_L11 x1 r) f = b1 at I1 J1 ⊢
      generalize mo_lp (m_mm_wanted_L4 (nI nB) M (nI O.length) mo mpc mpar x1) g = b2 at I2 J2 ⊢
      unfold m_bm_wanted_L11 m_mm_wanted_L4
      dsimp only
      have hc : tb r j = (pB (∃ b ∈ O, j ∈ P b) && (!tb M j && !pB (j ∈ O))) := by
        cases w : tb r j with
        | true =>
          obtain ⟨w1, w2, w3⟩ := (hr j (by omega)).mp w
          rw [pB_t w1, w2, pB_f w3]; rfl
        | false =>
          symm
          cases v : (pB (∃ b ∈ O, j ∈ P b) && (!tb M j && !pB (j ∈ O))) with
          | false => rfl
          | true =>
            rw [Bool.and_eq_true, Bool.and_eq_true, Bool.not_eq_true', Bool.not_eq_true'] at v
            have := (hr j (by omega)).mpr ⟨pB_of v.1, v.2.1, pB_nof v.2.2⟩
            rw [w] at this; cases this
      rw [mo_F (show ¬ (60 : Int32) ≤ nI j from nI_ge (b := 60) (by omega) (by decide)), e_holds' _ (by omega), mo_bs, mo_js, mo_F (nI_ge (by omega) (by omega)), e_wL18 hBm hB o4 o3 o2 (by omega), mo_bs, e_in' _ (by omega), e_isOrphan o2 o3 hO60 (by omega), hc, ← nI_succ]
      cases pB (∃ b ∈ O, j ∈ P b) with
      | false => exact ⟨p0, I1, I2⟩
      | true =>
        cases tb M j with
        | true => exact ⟨p0, I1, I2⟩
        | false =>
          cases pB (j ∈ O) with
          | true => exact ⟨p0, I1, I2⟩
          | false =>
            simp only [Bool.not_false, Bool.and_true, mo_js, mo_b1, mo_b0, mo_bs, mo_10, mo_00, mo_bT, mo_bF]
            by_cases q : c = x1
            · rw [mo_T q, mo_T q]; exact ⟨_, rfl, rfl⟩
            · rw [mo_F q, mo_F q]; exact ⟨p1, J1, J2⟩
  exact key nB 0 0 1000 1000 (by omega) (by omega) (by omega) (by omega)
theorem op_wanted {nT nB k : Nat} {ins : Nat → List (Nat × Nat × Int32)} {outs : Nat → List (Int32 × Nat)} {P I : Nat → List Nat} {sc : Nat → Nat} {p L : List Nat} {dI : List (Nat × Nat × Int32)} {dO : List (Int32 × Nat)} {pp pi O : List Nat} {M tips lacc aacc : Int64} {ids ic islot ifp iout isec ilock oc olock oamt fpc fpar fic fi bl h pph pih : Nat → Int32} {cp cf cb : Nat → Int64} {cs csel sq fo lam aam ph inp src idx sec outp lock amt mid mpc mpar hol held mbl mh : Nat → Int32} {mp mb : Nat → Int64} {ms msel mo mpool ord macc free coin worth : Nat → Int32} (x1 : Int32) (hR : RG nT nB k ins outs P I sc p L dI dO pp pi O M tips lacc aacc ids ic islot ifp iout isec ilock oc olock oamt fpc fpar fic fi bl h pph pih cp cf cb cs csel sq fo lam aam ph inp src idx sec outp lock amt mid mpc mpar hol held mbl mh mp mb ms msel mo mpool ord macc free coin worth) : ∃ o : Int32, m_bm_wanted M (nI O.length) fo fpc fpar x1 = some o ∧ m_mm_wanted (nI nB) M (nI O.length) mo mpc mpar x1 = some o := by
  obtain ⟨⟨hX, hY, hV, hB4, hBm, hI, hIm, hIt, hlk, hh⟩, hPS, hD, hPL, ⟨o1, o2, o3, o4, o5⟩, hF⟩ := hR
  obtain ⟨r, r1, r2⟩ := e_miss (M := M) hV.2.1 o1 o3 (fun b hb => (o4 b hb).1) hB4
  obtain ⟨o, w1, w2⟩ := wnt_core (M := M) x1 hV.2.1 o2 o3 (fun b hb => (o4 b hb).1) hBm (fun b hb => (hPS b hb).1) r2
  refine ⟨o, ?_, w2⟩
  unfold m_bm_wanted
  rw [r1, mo_bs, w1]
