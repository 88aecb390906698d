/-! make: what stands stays as it was, and there is one block more -/
theorem BP_add {c n : Nat} {P : Nat → List Nat} {fc fe fc' fe' : Nat → Int32} {l : List Nat} (h : BP c n P fc fe) (h1 : ∀ b, b < n → fc' b = fc b) (h2 : ∀ j, j < c * n → fe' j = fe j) (h3 : fc' n = nI l.length) (h4 : l.length ≤ c) (h5 : ∀ j x, l[j]? = some x → fe' (c * n + j) = nI x) (h6 : ∀ x ∈ l, x < 60) : BP c (n + 1) (fun b => if b = n then l else P b) fc' fe' := by
  intro b hb
  by_cases e : b = n
  · subst e
    dsimp only
    rw [if_pos rfl]
    exact ⟨h3, h4, fun j x hj => ⟨h5 j x hj, h6 x (List.mem_of_getElem? hj)⟩⟩
  · dsimp only
    rw [if_neg e]
    exact BP_up h h1 h2 b (by omega)
theorem grown {nT nB k : Nat} {ins : Nat → List (Nat × Nat × Int32)} {outs : Nat → List (Int32 × Nat)} {P I : Nat → List Nat} {sc : Nat → Nat} {p L : List Nat} {dI : List (Nat × Nat × Int32)} {dO : List (Int32 × Nat)} {pp pi O : List Nat} {M tips lacc aacc : Int64} {ids ic islot ifp iout isec ilock oc olock oamt fpc fpar fic fi bl h pph pih : Nat → Int32} {cp cf cb : Nat → Int64} {cs csel sq fo lam aam ph inp src idx sec outp lock amt mid mpc mpar hol held mbl mh : Nat → Int32} {mp mb : Nat → Int64} {ms msel mo mpool ord macc free coin worth : Nat → Int32} {pp0 pi0 : List Nat} {hv lk : Int32} {fpc' fpar' fic' fi' mpc' mpar' hol' held' : Nat → Int32} (hR : RG nT nB k ins outs P I sc p L dI dO pp pi O M tips lacc aacc ids ic islot ifp iout isec ilock oc olock oamt fpc fpar fic fi bl h pph pih cp cf cb cs csel sq fo lam aam ph inp src idx sec outp lock amt mid mpc mpar hol held mbl mh mp mb ms msel mo mpool ord macc free coin worth) (hB : nB < 60)
    (h1 : pp0.length ≤ 4) (h2 : ∀ q ∈ pp0, q < nB) (h2' : pp0 ≠ []) (h4 : pi0.length ≤ 3) (h5 : ∀ q ∈ pi0, q < nT)
    (c1 : ∀ b, b < nB → fpc' b = fpc b) (c2 : ∀ j, j < 4 * nB → fpar' j = fpar j) (c3 : fpc' nB = nI pp0.length) (c4 : ∀ j x, pp0[j]? = some x → fpar' (4 * nB + j) = nI x)
    (d1 : ∀ b, b < nB → fic' b = fic b) (d2 : ∀ j, j < 3 * nB → fi' j = fi j) (d3 : fic' nB = nI pi0.length) (d4 : ∀ j x, pi0[j]? = some x → fi' (3 * nB + j) = nI x)
    (e1 : ∀ b, b < nB → mpc' b = mpc b) (e2 : ∀ j, j < 4 * nB → mpar' j = mpar j) (e3 : mpc' nB = nI pp0.length) (e4 : ∀ j x, pp0[j]? = some x → mpar' (4 * nB + j) = nI x)
    (f1 : ∀ b, b < nB → hol' b = hol b) (f2 : ∀ j, j < 3 * nB → held' j = held j) (f3 : hol' nB = nI pi0.length) (f4 : ∀ j x, pi0[j]? = some x → held' (3 * nB + j) = nI x) :
    (SD nT (nB + 1) ins outs (fun b => if b = nB then pp0 else P b) (fun b => if b = nB then pi0 else I b) (upd h nB hv) (upd bl nB lk) ic islot ilock oc olock oamt fpc' fpar' fic' fi' inp src idx sec outp lock amt mpc' mpar' hol' held' (upd mbl nB lk) (upd mh nB hv) ∧ PS (nB + 1) (fun b => if b = nB then pp0 else P b) ∧ TD nT (nB + 1) dI dO ids ic islot ifp iout isec ilock oc olock oamt (upd h nB hv) mid inp src idx sec outp lock amt ∧ OR (nB + 1) M O fo mo ∧ FR nT (nB + 1) k ins outs (fun b => if b = nB then pp0 else P b) (fun b => if b = nB then pi0 else I b) M tips sc p (upd h nB hv) (upd bl nB lk) olock amt cs csel sq lam aam ph cp cb cf lacc aacc ms msel ord macc free coin worth mpool mp mb L) := by
  obtain ⟨⟨hX, hY, hV, hS⟩, hPS, hD, hPL, hO, hF⟩ := hR
  obtain ⟨t1, t2, t3, t4, t5, t6, t7, t8, t9, t10⟩ := hD
  obtain ⟨hB4, hBm, hI, hIm, hIt, hlk, hh⟩ := hS
  have hT := hV.1
  have mono : ∀ s i, okI nT nB s i → okI nT (nB + 1) s i := fun s i hq => hq.imp id (fun w => ⟨w.1, by omega, w.2.2⟩)
  refine ⟨⟨hX, hY, ⟨hT, by omega, fun t ht => ?_⟩, BP_add hB4 c1 c2 c3 h1 c4 (fun x hx => by have := h2 x hx; omega), BP_add hBm e1 e2 e3 h1 e4 (fun x hx => by have := h2 x hx; omega), BP_add hI d1 d2 d3 h4 d4 (fun x hx => by have := h5 x hx; omega), BP_add hIm f1 f2 f3 h4 f4 (fun x hx => by have := h5 x hx; omega), fun b hb t ht => ?_, fun c hc => ?_, fun y hy => ?_⟩, fun b hb => ?_, ⟨t1, t2, t3, t4, t5, t6, t7, fun j s i c hj => ?_, t9, t10⟩, ?_, ?_⟩
  · obtain ⟨v1, v2, v3, v4⟩ := hV.2.2 t ht
    exact ⟨v1, v2, fun k s i c hk => mono s i (v3 k s i c hk), v4⟩
  · dsimp only at ht
    by_cases e : b = nB
    · rw [if_pos e] at ht; exact h5 t ht
    · rw [if_neg e] at ht; exact hIt b (by omega) t ht
  · by_cases e : c = nB
    · rw [e, pk_us, pk_us]
    · rw [pk_un e, pk_un e]; exact hlk c (by omega)
  · by_cases e : y = nB
    · rw [e, pk_us, pk_us]
    · rw [pk_un e, pk_un e]; exact hh y (by omega)
  · dsimp only
    by_cases e : b = nB
    · rw [if_pos e, e]; exact ⟨h2, fun _ => h2'⟩
    · rw [if_neg e]; exact hPS b (by omega)
  · obtain ⟨q1, q2, q3, q4⟩ := t8 j s i c hj
    refine ⟨mono s i q1, q2, ?_, q4⟩
    rw [q3]
    unfold fpr
    rcases q1 with ⟨w1, w2⟩ | ⟨w1, w2, w3⟩
    · rw [if_pos (by omega), if_pos (by omega)]
    · rw [if_neg (by omega), if_neg (by omega), pk_un (by omega)]
  · obtain ⟨o1, o2, o3, o4, o5⟩ := hO
    exact ⟨o1, o2, o3, fun b hb => ⟨by have := (o4 b hb).1; omega, (o4 b hb).2⟩, o5⟩
  · exact FR_ag (Nat.le_refl _) (Nat.le_succ _) (by omega) hV hIt ⟨fun t ht => ⟨rfl, rfl⟩, fun j hj => rfl, fun b hb => ⟨pk_un (by omega), if_neg (by omega)⟩⟩ (fun b hb => if_neg (by omega)) (fun b hb => pk_un (by omega)) (fun j hj => rfl) hF
theorem op_make {nT nB k : Nat} {ins : Nat → List (Nat × Nat × Int32)} {outs : Nat → List (Int32 × Nat)} {P I : Nat → List Nat} {sc : Nat → Nat} {p L : List Nat} {dI : List (Nat × Nat × Int32)} {dO : List (Int32 × Nat)} {pp pi O : List Nat} {M tips lacc aacc : Int64} {ids ic islot ifp iout isec ilock oc olock oamt fpc fpar fic fi bl h pph pih : Nat → Int32} {cp cf cb : Nat → Int64} {cs csel sq fo lam aam ph inp src idx sec outp lock amt mid mpc mpar hol held mbl mh : Nat → Int32} {mp mb : Nat → Int64} {ms msel mo mpool ord macc free coin worth : Nat → Int32} (x1 x2 : Int32) (hR : RG nT nB k ins outs P I sc p L dI dO pp pi O M tips lacc aacc ids ic islot ifp iout isec ilock oc olock oamt fpc fpar fic fi bl h pph pih cp cf cb cs csel sq fo lam aam ph inp src idx sec outp lock amt mid mpc mpar hol held mbl mh mp mb ms msel mo mpool ord macc free coin worth) : ∃ (o : Int32) (nB' : Nat) (P' : Nat → List Nat) (I' : Nat → List Nat) (pp' : List Nat) (pi' : List Nat) (fpar' : Nat → Int32) (h' : Nat → Int32) (fi' : Nat → Int32) (fpc' : Nat → Int32) (fic' : Nat → Int32) (bl' : Nat → Int32) (mpc' : Nat → Int32) (hol' : Nat → Int32) (mpar' : Nat → Int32) (held' : Nat → Int32) (mbl' : Nat → Int32) (mh' : Nat → Int32), m_bm_make (nI pp.length) (nI nB) pph fpar h (nI pi.length) pih fi ids fpc fic bl x1 x2 = some (o, nI pp'.length, nI nB', fpar', h', nI pi'.length, fi', fpc', fic', bl') ∧ m_mm_make (nI nB) mpc hol mpar held mbl mh mid x1 x2 = some (o, nI nB', mpc', hol', mpar', held', mbl', mh') ∧ RG nT nB' k ins outs P' I' sc p L dI dO pp' pi' O M tips lacc aacc ids ic islot ifp iout isec ilock oc olock oamt fpc' fpar' fic' fi' bl' h' pph pih cp cf cb cs csel sq fo lam aam ph inp src idx sec outp lock amt mid mpc' mpar' hol' held' mbl' mh' mp mb ms msel mo mpool ord macc free coin worth := by
  have hR0 := hR
  obtain ⟨⟨hX, hY, hV, hS⟩, hPS, hD, hPL, hO, hF⟩ := hR
  obtain ⟨hB4, hBm, hI, hIm, hIt, hlk, hh⟩ := hS
  obtain ⟨p1, p2, p3, p4, p5, p6, p7, p8, p9, p10⟩ := hPL
  have hT := hV.1
  have hB := hV.2.1
  have r60 : ∀ {γ : Type} {f : Nat → Int32} {kk : Int32 → Option γ}, mo_rI f 62 60 kk = kk (f 60) := fun {γ f kk} => mo_rIn (j := 60) (by decide) (by decide)
  have w60 : ∀ {γ : Type} {f : Nat → Int32} {v : Int32} {kk : (Nat → Int32) → Option γ}, mo_wI f 62 60 v kk = kk (upd f 60 v) := fun {γ f v kk} => mo_wIn (j := 60) (by decide) (by decide)
  by_cases c : pp.length = 0 ∨ nB = 60
  · refine ⟨-1, nB, P, I, pp, pi, fpar, h, fi, fpc, fic, bl, mpc, hol, mpar, held, mbl, mh, ?_, ?_, hR0⟩
    · unfold m_bm_make m_bl_isFull
      by_cases c1 : pp.length = 0
      · rw [mo_T (show nI pp.length = 0 by rw [c1]; rfl)]
      · rw [mo_F (nI_ne0 (by omega) (by omega)), mo_T (show nI nB = (60 : Int32) by rw [show nB = 60 by omega]; rfl), mo_bs, mo_F (by decide)]
    · unfold m_mm_make
      rw [r60, p7]
      by_cases c1 : pp.length = 0
      · rw [mo_T (show nI pp.length = 0 by rw [c1]; rfl)]
      · rw [mo_F (nI_ne0 (by omega) (by omega)), mo_T (show nI nB = (60 : Int32) by rw [show nB = 60 by omega]; rfl)]
  · have c1 : 0 < pp.length := by omega
    have c2 : nB < 60 := by omega
    obtain ⟨fpar', fi', E1, E2, E3, E4, E5⟩ := e_cbuild (h := h) (ids := ids) (fpar := fpar) (fi := fi) (fpc := fpc) (fic := fic) (bl := bl) (lk := mx 7 x1) (n := x2) c2 hT p1 p3 p5 p2 p4 p6
    obtain ⟨mpar', held', G1, G2, G3, G4, G5, G6, G7⟩ := e_mbuild (F := 60) (mbl := mbl) (h := h) (ids := ids) x1 x2 c2 hT (by decide) (by decide) p1 p3 p7 p8 p2 p4 p9 p10 hh hD.1
    have ne : pp ≠ [] := fun w => by rw [w] at c1; simp at c1
    obtain ⟨Q1, Q2, Q3, Q4, Q5⟩ := grown (pp0 := pp) (pi0 := pi) (hv := hvP h ids pp pi (mx 7 x1) x2) (lk := mx 7 x1) (fpc' := upd fpc nB (nI pp.length)) (fpar' := fpar') (fic' := upd fic nB (nI pi.length)) (fi' := fi') (mpc' := upd (upd mpc nB (nI pp.length)) 60 0) (mpar' := mpar') (hol' := upd (upd hol nB (nI pi.length)) 60 0) (held' := held') hR0 c2 p1 p3 ne p2 p4 (fun b hb => pk_un (by omega)) E2 pk_us E3 (fun b hb => pk_un (by omega)) E4 pk_us E5 (fun b hb => by rw [pk_un (by omega), pk_un (by omega)]) G2 (by rw [pk_un (by omega), pk_us]) G3 (fun b hb => by rw [pk_un (by omega), pk_un (by omega)]) G5 (by rw [pk_un (by omega), pk_us]) G6
    refine ⟨nI nB, nB + 1, _, _, [], [], fpar', _, fi', _, _, _, _, _, mpar', held', _, _, ?_, ?_, Q1, Q2, Q3, ⟨Nat.zero_le _, Nat.zero_le _, fun x hx => (by cases hx), fun x hx => (by cases hx), hL_nil _, hL_nil _, pk_us, fun j x hj => (by cases hj), pk_us, fun j x hj => (by cases hj)⟩, Q4, Q5⟩
    · unfold m_bm_make m_bl_isFull
      rw [mo_F (nI_ne0 c1 (by omega)), mo_F (show ¬ nI nB = (60 : Int32) from N_eq (b := 60) (by omega) (by omega) (by decide)), mo_bs, mo_T rfl, e_lockFor, mo_bs, E1, mo_bs]
      rfl
    · unfold m_mm_make
      rw [r60, p7, mo_F (nI_ne0 c1 (by omega)), mo_F (show ¬ nI nB = (60 : Int32) from N_eq (b := 60) (by omega) (by omega) (by decide))]
      have G1 : m_mm_build (nI nB) mpc hol mpar held mbl mh mid 60 x1 x2 = _ := G1
      rw [G1, mo_bs]
      dsimp only
      rw [w60, w60]
