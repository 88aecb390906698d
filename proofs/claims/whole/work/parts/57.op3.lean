/-! the plan: parent, include, clear -/
theorem BP_up {c n : Nat} {P : Nat → List Nat} {fc fe fc' fe' : Nat → Int32} (h : BP c n P fc fe) (h1 : ∀ b, b < n → fc' b = fc b) (h2 : ∀ j, j < c * n → fe' j = fe j) : BP c n P fc' fe' := by
  intro b hb
  obtain ⟨a1, a2, a3⟩ := h b hb
  refine ⟨by rw [h1 b hb]; exact a1, a2, fun k x hk => ?_⟩
  have hl := (List.getElem?_eq_some_iff.mp hk).1
  have : c * b + k < c * n := by
    have h3 : c * (b + 1) ≤ c * n := Nat.mul_le_mul_left c hb
    rw [Nat.mul_add, Nat.mul_one] at h3
    omega
  rw [h2 _ this]
  exact a3 k x hk
theorem mem_take {l : List Nat} {j x : Nat} (hj : j < l.length) : x ∈ l.take (j + 1) ↔ (x ∈ l.take j ∨ x = l[j]) := by
  rw [(List.take_append_getElem hj).symm, List.mem_append, List.mem_singleton]
theorem e_nuHas {f : Nat → Int32} {l : List Nat} {n x : Nat} (h : hL f l) (hn : l.length ≤ n) (hn2 : n ≤ 100) (hb : ∀ y ∈ l, y < 1000) (hx : x < 1000) : m_nu_has (nI l.length) f n (nI x) = some (bI (pB (x ∈ l))) := by
  unfold m_nu_has
  refine so_eq (lp_ix l.length (fun j z => z = nI j ∧ x ∉ l.take j) (fun o => o = bI (pB (x ∈ l))) ?_ 1000 0 0 (Nat.zero_le _) ⟨rfl, by simp⟩ (by omega))
  intro back j z hj hz ih
  obtain ⟨rfl, hz⟩ := hz
  unfold m_nu_has_L2
  by_cases e : j = l.length
  · rw [e, List.take_length] at hz
    rw [mo_T (nI_le (by omega) (by omega)), pB_f hz]
    exact ⟨_, rfl, rfl⟩
  · have hj2 : j < l.length := by omega
    rw [mo_F (nI_ge hj2 (by omega)), mo_rIn (by omega) (by omega), h j _ (List.getElem?_eq_getElem hj2)]
    have hm := List.getElem_mem hj2
    have hy := hb _ hm
    by_cases q : l[j] = x
    · rw [mo_T (by rw [q]), pB_t (q ▸ hm)]
      exact ⟨_, rfl, rfl⟩
    · rw [mo_F (N_eq q (by omega) (by omega)), ← nI_succ]
      exact ih _ hj2 ⟨rfl, fun w => ((mem_take hj2).mp w).elim hz (fun w => q w.symm)⟩
theorem e_addNew {f : Nat → Int32} {l : List Nat} {n x : Nat} (h : hL f l) (hn : l.length ≤ n) (hn2 : n ≤ 100) (hb : ∀ y ∈ l, y < 1000) (hx : x < 1000) : ((l.length = n ∨ x ∈ l) → m_nu_addNew (nI l.length) f n (nI x) = some (0, nI l.length, f)) ∧ ((l.length < n ∧ x ∉ l) → m_nu_addNew (nI l.length) f n (nI x) = some (1, nI (l ++ [x]).length, upd f l.length (nI x))) := by
  constructor
  · intro c
    unfold m_nu_addNew m_nu_isFull
    by_cases e : l.length = n
    · rw [mo_T (show nI l.length = Int32.ofNat n by rw [e]; rfl), mo_bs, mo_F (by decide)]
    · rw [mo_F (show ¬ nI l.length = Int32.ofNat n from N_eq e (by omega) (by omega)), mo_bs, mo_T rfl, e_nuHas h hn hn2 hb hx, mo_bs, pB_t (c.elim (fun w => absurd w e) id), mo_F (by decide)]
  · rintro ⟨c1, c2⟩
    unfold m_nu_addNew m_nu_isFull
    rw [mo_F (show ¬ nI l.length = Int32.ofNat n from N_eq (by omega) (by omega) (by omega)), mo_bs, mo_T rfl, e_nuHas h hn hn2 hb hx, mo_bs, pB_f c2, mo_T bI_f, mo_wIn c1 (by omega), ← nI_succ, List.length_append]
    rfl
theorem snocP {f g : Nat → Int32} {c : Nat} {l : List Nat} {x : Nat} (h : ∀ j y, l[j]? = some y → f (c + j) = nI y) (g1 : ∀ j, j ≠ c + l.length → g j = f j) (g2 : g (c + l.length) = nI x) : ∀ j y, (l ++ [x])[j]? = some y → g (c + j) = nI y := by
  intro j y hj
  rcases snoc_get hj with ⟨w1, w2⟩ | ⟨w1, w2⟩
  · rw [g1 _ (by omega)]
    exact h j y w2
  · rw [w1, w2]; exact g2
theorem e_mparL23 {mpc mpar : Nat → Int32} {pp : List Nat} {x : Nat} {J : Option (Int32 × (Nat → Int32) × (Nat → Int32))} (hn : pp.length ≤ 4) (hb : ∀ y ∈ pp, y < 1000) (hx : x < 1000) (h1 : mpc 60 = nI pp.length) (h2 : ∀ j y, pp[j]? = some y → mpar (240 + j) = nI y) : mo_lp (m_mm_parent_L23 mpc mpar (nI x) J) 1000 0 = if pB (x ∈ pp) = true then some (0, mpc, mpar) else J := by
  have r60 : ∀ {γ : Type} {kk : Int32 → Option γ}, mo_rI mpc 62 60 kk = kk (mpc 60) := fun {γ kk} => mo_rIn (j := 60) (by decide) (by decide)
  have key : ∀ n j f, j + n = pp.length → n < f → x ∉ pp.take j → mo_lp (m_mm_parent_L23 mpc mpar (nI x) J) f (nI j) = if pB (x ∈ pp) = true then some (0, mpc, mpar) else J := by
    intro n
    induction n with
    | zero =>
      intro j f hj hf hz
      obtain ⟨f, rfl⟩ : ∃ g, f = g + 1 := ⟨f - 1, by omega⟩
      show m_mm_parent_L23 mpc mpar (nI x) J (mo_lp (m_mm_parent_L23 mpc mpar (nI x) J) f) (nI j) = _
      generalize mo_lp (m_mm_parent_L23 mpc mpar (nI x) J) f = back
      unfold m_mm_parent_L23
      have e : j = pp.length := by omega
      rw [e, List.take_length] at hz
      rw [r60, h1, mo_T (nI_le (by omega) (by omega)), if_neg (by rw [pB_f hz]; decide)]
    | succ n ih =>
      intro j f hj hf hz
      obtain ⟨f, rfl⟩ : ∃ g, f = g + 1 := ⟨f - 1, by omega⟩
      have ih := fun hz => ih (j + 1) f (by omega) (by omega) hz
      show m_mm_parent_L23 mpc mpar (nI x) J (mo_lp (m_mm_parent_L23 mpc mpar (nI x) J) f) (nI j) = _
      generalize mo_lp (m_mm_parent_L23 mpc mpar (nI x) J) f = back at ih ⊢
      unfold m_mm_parent_L23
      have hj2 : j < pp.length := by omega
      have hm := List.getElem_mem hj2
      have hy := hb _ hm
      rw [r60, h1, mo_F (nI_ge hj2 (by omega)), show (240 : Int32) + nI j = nI (240 + j) from nI_add 240 j, mo_rIn (by omega) (by decide), h2 j _ (List.getElem?_eq_getElem hj2)]
      by_cases q : pp[j] = x
      · rw [mo_T (by rw [q]), if_pos (pB_t (q ▸ hm))]
      · rw [mo_F (N_eq q (by omega) (by omega)), ← nI_succ]
        exact ih (fun w => ((mem_take hj2).mp w).elim hz (fun w => q w.symm))
  exact key pp.length 0 1000 (by omega) (by omega) (by simp)
theorem e_mincL27 {hol held : Nat → Int32} {pi : List Nat} {x : Nat} {J : Option (Int32 × (Nat → Int32) × (Nat → Int32))} (hn : pi.length ≤ 3) (hb : ∀ y ∈ pi, y < 1000) (hx : x < 1000) (h1 : hol 60 = nI pi.length) (h2 : ∀ j y, pi[j]? = some y → held (180 + j) = nI y) : mo_lp (m_mm_include_L27 hol held (nI x) J) 1000 0 = if pB (x ∈ pi) = true then some (0, hol, held) else J := by
  have r60 : ∀ {γ : Type} {kk : Int32 → Option γ}, mo_rI hol 62 60 kk = kk (hol 60) := fun {γ kk} => mo_rIn (j := 60) (by decide) (by decide)
  have key : ∀ n j f, j + n = pi.length → n < f → x ∉ pi.take j → mo_lp (m_mm_include_L27 hol held (nI x) J) f (nI j) = if pB (x ∈ pi) = true then some (0, hol, held) else J := by
    intro n
    induction n with
    | zero =>
      intro j f hj hf hz
      obtain ⟨f, rfl⟩ : ∃ g, f = g + 1 := ⟨f - 1, by omega⟩
      show m_mm_include_L27 hol held (nI x) J (mo_lp (m_mm_include_L27 hol held (nI x) J) f) (nI j) = _
      generalize mo_lp (m_mm_include_L27 hol held (nI x) J) f = back
      unfold m_mm_include_L27
      have e : j = pi.length := by omega
      rw [e, List.take_length] at hz
      rw [r60, h1, mo_T (nI_le (by omega) (by omega)), if_neg (by rw [pB_f hz]; decide)]
    | succ n ih =>
      intro j f hj hf hz
      obtain ⟨f, rfl⟩ : ∃ g, f = g + 1 := ⟨f - 1, by omega⟩
      have ih := fun hz => ih (j + 1) f (by omega) (by omega) hz
      show m_mm_include_L27 hol held (nI x) J (mo_lp (m_mm_include_L27 hol held (nI x) J) f) (nI j) = _
      generalize mo_lp (m_mm_include_L27 hol held (nI x) J) f = back at ih ⊢
      unfold m_mm_include_L27
      have hj2 : j < pi.length := by omega
      have hm := List.getElem_mem hj2
      have hy := hb _ hm
      rw [r60, h1, mo_F (nI_ge hj2 (by omega)), show (180 : Int32) + nI j = nI (180 + j) from nI_add 180 j, mo_rIn (by omega) (by decide), h2 j _ (List.getElem?_eq_getElem hj2)]
      by_cases q : pi[j] = x
      · rw [mo_T (by rw [q]), if_pos (pB_t (q ▸ hm))]
      · rw [mo_F (N_eq q (by omega) (by omega)), ← nI_succ]
        exact ih (fun w => ((mem_take hj2).mp w).elim hz (fun w => q w.symm))
  exact key pi.length 0 1000 (by omega) (by omega) (by simp)
theorem op_parent {nT nB k : Nat} {ins : Nat → List (Nat × Nat × Int32)} {outs : Nat → List (Int32 × Nat)} {P I : Nat → List Nat} {sc : Nat → Nat} {p L : List Nat} {dI : List (Nat × Nat × Int32)} {dO : List (Int32 × Nat)} {pp pi O : List Nat} {M tips lacc aacc : Int64} {ids ic islot ifp iout isec ilock oc olock oamt fpc fpar fic fi bl h pph pih : Nat → Int32} {cp cf cb : Nat → Int64} {cs csel sq fo lam aam ph inp src idx sec outp lock amt mid mpc mpar hol held mbl mh : Nat → Int32} {mp mb : Nat → Int64} {ms msel mo mpool ord macc free coin worth : Nat → Int32} (x1 : Int32) (hR : RG nT nB k ins outs P I sc p L dI dO pp pi O M tips lacc aacc ids ic islot ifp iout isec ilock oc olock oamt fpc fpar fic fi bl h pph pih cp cf cb cs csel sq fo lam aam ph inp src idx sec outp lock amt mid mpc mpar hol held mbl mh mp mb ms msel mo mpool ord macc free coin worth) : ∃ (o : Int32) (pp' : List Nat) (pph' : Nat → Int32) (mpc' : Nat → Int32) (mpar' : Nat → Int32), m_bm_parent (nI nB) (nI pp.length) pph x1 = some (o, nI pp'.length, pph') ∧ m_mm_parent (nI nB) mpc mpar x1 = some (o, mpc', mpar') ∧ RG nT nB k ins outs P I sc p L dI dO pp' pi O M tips lacc aacc ids ic islot ifp iout isec ilock oc olock oamt fpc fpar fic fi bl h pph' pih cp cf cb cs csel sq fo lam aam ph inp src idx sec outp lock amt mid mpc' mpar' hol held mbl mh mp mb ms msel mo mpool ord macc free coin worth := by
  have hR0 := hR
  obtain ⟨⟨hX, hY, hV, hS⟩, hPS, hD, hPL, hO, hF⟩ := hR
  obtain ⟨hB4, hBm, hI, hIm, hIt, hlk, hh⟩ := hS
  obtain ⟨p1, p2, p3, p4, p5, p6, p7, p8, p9, p10⟩ := hPL
  have hB := hV.2.1
  have r60 : ∀ {γ : Type} {f : Nat → Int32} {kk : Int32 → Option γ}, mo_rI f 62 60 kk = kk (f 60) := fun {γ f kk} => mo_rIn (j := 60) (by decide) (by decide)
  have w60 : ∀ {γ : Type} {f : Nat → Int32} {v : Int32} {kk : (Nat → Int32) → Option γ}, mo_wI f 62 60 v kk = kk (upd f 60 v) := fun {γ f v kk} => mo_wIn (j := 60) (by decide) (by decide)
  rcases e_has (n := nB) (by omega) x1 with ⟨e1, e2, e3, e4, e5⟩ | ⟨b, hb, rfl, e1, e2, e3, e4, e5⟩
  · refine ⟨0, pp, pph, mpc, mpar, ?_, ?_, hR0⟩
    · unfold m_bm_parent
      rw [e1, mo_bs, mo_T rfl]
    · unfold m_mm_parent
      rw [e3, mo_bs, mo_T rfl]
  · have hpb : ∀ y ∈ pp, y < 1000 := fun y hy => by have := p3 y hy; omega
    obtain ⟨A1, A2⟩ := e_addNew (n := 4) (x := b) p5 p1 (by decide) hpb (by omega)
    by_cases c : pp.length = 4 ∨ b ∈ pp
    · refine ⟨0, pp, pph, mpc, mpar, ?_, ?_, hR0⟩
      · unfold m_bm_parent
        rw [e1, mo_bs, mo_F (by decide), A1 c, mo_bs]
        exact mo_T rfl
      · unfold m_mm_parent
        rw [e3, mo_bs, mo_F (by decide), r60, p7]
        by_cases c4 : pp.length = 4
        · rw [mo_T (show nI pp.length = (4 : Int32) by rw [c4]; rfl)]
        · rw [mo_F (show ¬ nI pp.length = (4 : Int32) from N_eq (b := 4) c4 (by omega) (by decide)), mo_js, e_mparL23 p1 hpb (by omega) p7 p8, if_pos (pB_t (c.elim (fun w => absurd w c4) id))]
    · have c1 : pp.length < 4 := by omega
      have c2 : b ∉ pp := fun w => c (Or.inr w)
      refine ⟨1, pp ++ [b], upd pph pp.length (nI b), upd mpc 60 (nI (pp.length + 1)), upd mpar (240 + pp.length) (nI b), ?_, ?_, ⟨hX, hY, hV, hB4, BP_up hBm (fun y hy => pk_un (by omega)) (fun j hj => pk_un (by omega)), hI, hIm, hIt, hlk, hh⟩, hPS, hD, ⟨by rw [List.length_append]; simp; omega, p2, fun y hy => ?_, p4, hL_snoc p5 b, p6, by rw [pk_us, List.length_append]; rfl, snocP p8 (fun j hj => pk_un hj) pk_us, p9, p10⟩, hO, hF⟩
      · unfold m_bm_parent
        rw [e1, mo_bs, mo_F (by decide), A2 ⟨c1, c2⟩, mo_bs]
        exact mo_F (by decide)
      · unfold m_mm_parent
        rw [e3, mo_bs, mo_F (by decide), r60, p7, mo_F (show ¬ nI pp.length = (4 : Int32) from N_eq (b := 4) (by omega) (by omega) (by decide)), mo_js, e_mparL23 p1 hpb (by omega) p7 p8, if_neg (by rw [pB_f c2]; decide), r60, p7, show (240 : Int32) + nI pp.length = nI (240 + pp.length) from nI_add 240 pp.length, mo_wIn (by omega) (by decide), r60, w60, p7, ← nI_succ]
      · rcases List.mem_append.mp hy with w | w
        · exact p3 y w
        · rw [List.mem_singleton.mp w]; exact hb
theorem op_include {nT nB k : Nat} {ins : Nat → List (Nat × Nat × Int32)} {outs : Nat → List (Int32 × Nat)} {P I : Nat → List Nat} {sc : Nat → Nat} {p L : List Nat} {dI : List (Nat × Nat × Int32)} {dO : List (Int32 × Nat)} {pp pi O : List Nat} {M tips lacc aacc : Int64} {ids ic islot ifp iout isec ilock oc olock oamt fpc fpar fic fi bl h pph pih : Nat → Int32} {cp cf cb : Nat → Int64} {cs csel sq fo lam aam ph inp src idx sec outp lock amt mid mpc mpar hol held mbl mh : Nat → Int32} {mp mb : Nat → Int64} {ms msel mo mpool ord macc free coin worth : Nat → Int32} (x1 : Int32) (hR : RG nT nB k ins outs P I sc p L dI dO pp pi O M tips lacc aacc ids ic islot ifp iout isec ilock oc olock oamt fpc fpar fic fi bl h pph pih cp cf cb cs csel sq fo lam aam ph inp src idx sec outp lock amt mid mpc mpar hol held mbl mh mp mb ms msel mo mpool ord macc free coin worth) : ∃ (o : Int32) (pi' : List Nat) (pih' : Nat → Int32) (hol' : Nat → Int32) (held' : Nat → Int32), m_bm_include (nI nT) (nI pi.length) pih x1 = some (o, nI pi'.length, pih') ∧ m_mm_include (nI nT) hol held x1 = some (o, hol', held') ∧ RG nT nB k ins outs P I sc p L dI dO pp pi' O M tips lacc aacc ids ic islot ifp iout isec ilock oc olock oamt fpc fpar fic fi bl h pph pih' cp cf cb cs csel sq fo lam aam ph inp src idx sec outp lock amt mid mpc mpar hol' held' mbl mh mp mb ms msel mo mpool ord macc free coin worth := by
  have hR0 := hR
  obtain ⟨⟨hX, hY, hV, hS⟩, hPS, hD, hPL, hO, hF⟩ := hR
  obtain ⟨hB4, hBm, hI, hIm, hIt, hlk, hh⟩ := hS
  obtain ⟨p1, p2, p3, p4, p5, p6, p7, p8, p9, p10⟩ := hPL
  have hT := hV.1
  have hB := hV.2.1
  have r60 : ∀ {γ : Type} {f : Nat → Int32} {kk : Int32 → Option γ}, mo_rI f 62 60 kk = kk (f 60) := fun {γ f kk} => mo_rIn (j := 60) (by decide) (by decide)
  have w60 : ∀ {γ : Type} {f : Nat → Int32} {v : Int32} {kk : (Nat → Int32) → Option γ}, mo_wI f 62 60 v kk = kk (upd f 60 v) := fun {γ f v kk} => mo_wIn (j := 60) (by decide) (by decide)
  rcases e_has (n := nT) (by omega) x1 with ⟨e1, e2, e3, e4, e5⟩ | ⟨b, hb, rfl, e1, e2, e3, e4, e5⟩
  · refine ⟨0, pi, pih, hol, held, ?_, ?_, hR0⟩
    · unfold m_bm_include
      rw [e2, mo_bs, mo_T rfl]
    · unfold m_mm_include
      rcases e5 with e5 | ⟨e5, e6⟩
      · rw [mo_T e5]
      · rw [mo_F e5, mo_T e6]
  · have hpb : ∀ y ∈ pi, y < 1000 := fun y hy => by have := p4 y hy; omega
    obtain ⟨A1, A2⟩ := e_addNew (n := 3) (x := b) p6 p2 (by decide) hpb (by omega)
    by_cases c : pi.length = 3 ∨ b ∈ pi
    · refine ⟨0, pi, pih, hol, held, ?_, ?_, hR0⟩
      · unfold m_bm_include
        rw [e2, mo_bs, mo_F (by decide), A1 c, mo_bs]
        exact mo_T rfl
      · unfold m_mm_include
        rw [mo_F e4, mo_F e5, r60, p9]
        by_cases c4 : pi.length = 3
        · rw [mo_T (show nI pi.length = (3 : Int32) by rw [c4]; rfl)]
        · rw [mo_F (show ¬ nI pi.length = (3 : Int32) from N_eq (b := 3) c4 (by omega) (by decide)), mo_js, e_mincL27 p2 hpb (by omega) p9 p10, if_pos (pB_t (c.elim (fun w => absurd w c4) id))]
    · have c1 : pi.length < 3 := by omega
      have c2 : b ∉ pi := fun w => c (Or.inr w)
      refine ⟨1, pi ++ [b], upd pih pi.length (nI b), upd hol 60 (nI (pi.length + 1)), upd held (180 + pi.length) (nI b), ?_, ?_, ⟨hX, hY, hV, hB4, hBm, hI, BP_up hIm (fun y hy => pk_un (by omega)) (fun j hj => pk_un (by omega)), hIt, hlk, hh⟩, hPS, hD, ⟨p1, by rw [List.length_append]; simp; omega, p3, fun y hy => ?_, p5, hL_snoc p6 b, p7, p8, by rw [pk_us, List.length_append]; rfl, snocP p10 (fun j hj => pk_un hj) pk_us⟩, hO, hF⟩
      · unfold m_bm_include
        rw [e2, mo_bs, mo_F (by decide), A2 ⟨c1, c2⟩, mo_bs]
        exact mo_F (by decide)
      · unfold m_mm_include
        rw [mo_F e4, mo_F e5, r60, p9, mo_F (show ¬ nI pi.length = (3 : Int32) from N_eq (b := 3) (by omega) (by omega) (by decide)), mo_js, e_mincL27 p2 hpb (by omega) p9 p10, if_neg (by rw [pB_f c2]; decide), r60, p9, show (180 : Int32) + nI pi.length = nI (180 + pi.length) from nI_add 180 pi.length, mo_wIn (by omega) (by decide), r60, w60, p9, ← nI_succ]
      · rcases List.mem_append.mp hy with w | w
        · exact p4 y w
        · rw [List.mem_singleton.mp w]; exact hb
theorem op_clear {nT nB k : Nat} {ins : Nat → List (Nat × Nat × Int32)} {outs : Nat → List (Int32 × Nat)} {P I : Nat → List Nat} {sc : Nat → Nat} {p L : List Nat} {dI : List (Nat × Nat × Int32)} {dO : List (Int32 × Nat)} {pp pi O : List Nat} {M tips lacc aacc : Int64} {ids ic islot ifp iout isec ilock oc olock oamt fpc fpar fic fi bl h pph pih : Nat → Int32} {cp cf cb : Nat → Int64} {cs csel sq fo lam aam ph inp src idx sec outp lock amt mid mpc mpar hol held mbl mh : Nat → Int32} {mp mb : Nat → Int64} {ms msel mo mpool ord macc free coin worth : Nat → Int32} (hR : RG nT nB k ins outs P I sc p L dI dO pp pi O M tips lacc aacc ids ic islot ifp iout isec ilock oc olock oamt fpc fpar fic fi bl h pph pih cp cf cb cs csel sq fo lam aam ph inp src idx sec outp lock amt mid mpc mpar hol held mbl mh mp mb ms msel mo mpool ord macc free coin worth) : ∃ (dI' : List (Nat × Nat × Int32)) (dO' : List (Int32 × Nat)) (pp' : List Nat) (pi' : List Nat) (ic' : Nat → Int32) (oc' : Nat → Int32) (inp' : Nat → Int32) (outp' : Nat → Int32) (mpc' : Nat → Int32) (hol' : Nat → Int32), m_bm_clear (nI nT) ic oc (nI pp.length) (nI pi.length) = some (ic', oc', nI pp'.length, nI pi'.length) ∧ m_mm_clear inp outp mpc hol = some (inp', outp', mpc', hol') ∧ RG nT nB k ins outs P I sc p L dI' dO' pp' pi' O M tips lacc aacc ids ic' islot ifp iout isec ilock oc' olock oamt fpc fpar fic fi bl h pph pih cp cf cb cs csel sq fo lam aam ph inp' src idx sec outp' lock amt mid mpc' mpar hol' held mbl mh mp mb ms msel mo mpool ord macc free coin worth := by
  obtain ⟨⟨hX, hY, hV, hS⟩, hPS, hD, hPL, hO, hF⟩ := hR
  obtain ⟨t1, t2, t3, t4, t5, t6, t7, t8, t9, t10⟩ := hD
  obtain ⟨hB4, hBm, hI, hIm, hIt, hlk, hh⟩ := hS
  obtain ⟨p1, p2, p3, p4, p5, p6, p7, p8, p9, p10⟩ := hPL
  have hT := hV.1
  have hB := hV.2.1
  have w60 : ∀ {γ : Type} {f : Nat → Int32} {v : Int32} {kk : (Nat → Int32) → Option γ}, mo_wI f 62 60 v kk = kk (upd f 60 v) := fun {γ f v kk} => mo_wIn (j := 60) (by decide) (by decide)
  have w40 : ∀ {γ : Type} {f : Nat → Int32} {v : Int32} {kk : (Nat → Int32) → Option γ}, mo_wI f 41 40 v kk = kk (upd f 40 v) := fun {γ f v kk} => mo_wIn (j := 40) (by decide) (by decide)
  refine ⟨[], [], [], [], upd ic nT 0, upd oc nT 0, upd inp 40 0, upd outp 40 0, upd mpc 60 0, upd hol 60 0, ?_, ?_, ⟨?_, ?_, hV, hB4, BP_up hBm (fun y hy => pk_un (by omega)) (fun j hj => rfl), hI, BP_up hIm (fun y hy => pk_un (by omega)) (fun j hj => rfl), hIt, hlk, hh⟩, hPS, ⟨t1, Nat.zero_le _, Nat.zero_le _, pk_us, pk_us, pk_us, pk_us, fun j s i c hj => (by cases hj), fun j lk a hj => (by cases hj), fun t h1 h2 => ?_⟩, ⟨Nat.zero_le _, Nat.zero_le _, fun x hx => (by cases hx), fun x hx => (by cases hx), hL_nil _, hL_nil _, pk_us, fun j x hj => (by cases hj), pk_us, fun j x hj => (by cases hj)⟩, hO, hF⟩
  · unfold m_bm_clear m_tr_forgetDraft m_bp_forget
    rw [mo_wIn (by omega) (by decide), mo_wIn (by omega) (by decide), mo_bs]
    rfl
  · unfold m_mm_clear
    rw [w40, w40, w60, w60]
  · exact TX_up (fun t ht => ⟨(hV.2.2 t ht).1, (hV.2.2 t ht).2.1⟩) hX (fun t ht => ⟨pk_un (by omega), pk_un (by omega)⟩) (fun j hj => ⟨rfl, rfl, rfl, rfl⟩)
  · exact TM_up (fun t ht => ⟨(hV.2.2 t ht).1, (hV.2.2 t ht).2.1⟩) hY (fun t ht => ⟨pk_un (by omega), pk_un (by omega)⟩) (fun j hj => ⟨rfl, rfl, rfl, rfl, rfl⟩)
  · rw [pk_un (by omega), pk_un (by omega)]
    exact t10 t h1 h2
