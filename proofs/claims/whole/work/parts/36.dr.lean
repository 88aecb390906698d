/-! a block enters the DAG: attach (the class) and enter (the reference) -/
theorem e_attachL18 {N b : Nat} {p : Nat → Int64} {cf : Nat → Int64} (hN : N ≤ 60) (hb : b < 61) : ∃ cf' : Nat → Int64, mo_lp (m_dg_attach_L18 (nI N) (nI b) p) 1000 (0, cf) = some cf' ∧ ∀ j, cf' j = if j < N ∧ tb (p b) j = true then cf j ||| bi b else cf j := by
  obtain ⟨o, h1, h2⟩ := lp_ix (step := m_dg_attach_L18 (nI N) (nI b) p) N (fun j z => ∃ g : Nat → Int64, z = (nI j, g) ∧ ∀ i, g i = if i < j ∧ tb (p b) i = true then cf i ||| bi b else cf i) (fun o => ∀ i, o i = if i < N ∧ tb (p b) i = true then cf i ||| bi b else cf i) (by
    intro back j z hj hz ih
    obtain ⟨g, rfl, hg⟩ := hz
    unfold m_dg_attach_L18
    dsimp only
    by_cases e : j = N
    · subst e
      rw [mo_T (nI_le (Nat.le_refl _) (by omega))]
      exact ⟨_, rfl, hg⟩
    · rw [mo_F (nI_ge (by omega) (by omega)), mo_rLn (by omega) (by decide), e_holds' _ (by omega), mo_bs, mo_js]
      cases t : tb (p b) j with
      | false =>
        rw [mo_T bI_f, ← nI_succ]
        refine ih _ (by omega) ⟨g, rfl, fun i => ?_⟩
        rw [hg i]
        by_cases ei : i = j
        · subst ei
          rw [if_neg (by omega), if_neg (fun w => by rw [t] at w; cases w.2)]
        · by_cases q : i < j ∧ tb (p b) i = true
          · rw [if_pos q, if_pos ⟨by omega, q.2⟩]
          · rw [if_neg q, if_neg (fun w => q ⟨by omega, w.2⟩)]
      | true =>
        rw [mo_F (by decide), mo_rLn (by omega) (by decide), e_bit, mo_bs, mo_wLn (by omega) (by decide), ← nI_succ]
        refine ih _ (by omega) ⟨vp_updL g j (g j ||| bi b), rfl, fun i => ?_⟩
        by_cases ei : i = j
        · subst ei
          rw [pk_uLs, if_pos ⟨by omega, t⟩, hg i, if_neg (by omega)]
        · rw [pk_uLn ei, hg i]
          by_cases q : i < j ∧ tb (p b) i = true
          · rw [if_pos q, if_pos ⟨by omega, q.2⟩]
          · rw [if_neg q, if_neg (fun w => q ⟨by omega, w.2⟩)]) 1000 0 (0, cf) (Nat.zero_le _) ⟨cf, rfl, fun i => by rw [if_neg (by omega)]⟩ (by omega)
  exact ⟨o, h1, h2⟩
theorem stl_good0 {N k r s : Nat} {M x : Int64} {sc : Nat → Nat} {h cs : Nat → Int32} {cp cb : Nat → Int64} (hD : DOK N k M sc cs cp cb) (hx : ∀ y, tb x y = true → tb M y = true) (hr : tb M r = false) (hs : best (hvb sc h) x 60 = some s) : goodB (vp_updL cp r (stP cp x)) k (cb s ||| bi s) = true ∧ (∀ y, tb (cb s ||| bi s) y = true → tb (stP cp x) y = true) := by
  obtain ⟨⟨s1, s2, s3, s4⟩, hup, hmg, hbig⟩ := stl_pre (h := h) hD hx hr hs
  obtain ⟨d1, d2, d3, d4, d5, d6, d7⟩ := hD
  have hss : tb (cp s) s = false := by
    cases t : tb (cp s) s with
    | false => rfl
    | true => have := (d5 s s s2 t).2; omega
  have hbs : tb (cb s) s = false := by
    cases t : tb (cb s) s with
    | false => rfl
    | true => rw [d6 s s s2 t] at hss; cases hss
  have hbM : ∀ y, tb (cb s) y = true → tb M y = true := fun y hy => (d5 s y s2 (d6 s y s2 hy)).1
  refine ⟨?_, fun y hy => ?_⟩
  · rw [good_congr (ps' := cp) (fun y hy => hup y (sub_add (by omega) s2 hbM y hy))]
    refine good_add s3 hbs (d7 s s2) (fun y hy => ?_)
    unfold ap
    rw [d6 s y s2 hy]
    simp
  · rw [tb_or, tb_bi (by omega), Bool.or_eq_true, decide_eq_true_iff] at hy
    unfold stP
    rw [tb_or, Bool.or_eq_true, tb_orp]
    rcases hy with q | q
    · exact Or.inr ⟨s, s3, s1, d6 s y s2 q⟩
    · rw [q]; exact Or.inl s1
/-- a row's blue set lies in its past and is good -/
theorem stl_blue {N k r s : Nat} {M x B : Int64} {sc : Nat → Nat} {h cs : Nat → Int32} {cp cb : Nat → Int64} {l : List Nat} (hD : DOK N k M sc cs cp cb) (hx : ∀ y, tb x y = true → tb M y = true) (hr : tb M r = false) (hS : STL sc h cp cb k r x s l B) : (∀ y, tb B y = true → tb (stP cp x) y = true) ∧ goodB (vp_updL cp r (stP cp x)) k B = true := by
  obtain ⟨hs, hl, rfl⟩ := hS
  obtain ⟨⟨s1, s2, s3, s4⟩, hup, hmg, hbig⟩ := stl_pre (h := h) hD hx hr hs
  obtain ⟨g1, g2⟩ := stl_good0 (h := h) hD hx hr hs
  refine ⟨bfold_sub l _ (fun b hb => ?_) g2, bfold_good l _ g1⟩
  obtain ⟨q1, q2, _⟩ := hmg b ((hl.2 b).mp hb)
  have := hD.2.2.1 b q1
  have := hD.1
  exact ⟨by omega, q2⟩
/-- the same row on both sides -/
theorem stl_same {N k r s s' : Nat} {M x B B' : Int64} {sc : Nat → Nat} {h cs : Nat → Int32} {cp cb mp mb : Nat → Int64} {l l' : List Nat} (hD : DOK N k M sc cs cp cb) (hx : ∀ y, tb x y = true → tb M y = true) (hr : tb M r = false) (hp : ∀ y, tb M y = true → mp y = cp y) (hb : ∀ y, tb M y = true → mb y = cb y) (h1 : STL sc h cp cb k r x s l B) (h2 : STL sc h mp mb k r x s' l' B') : s' = s ∧ l' = l ∧ B' = B ∧ stP mp x = stP cp x := by
  have ho : ∀ n, orp mp x n = orp cp x n := by
    intro n
    induction n with
    | zero => rfl
    | succ n ih =>
      cases t : tb x n with
      | false => rw [orp_f t, orp_f t, ih]
      | true => rw [orp_t t, orp_t t, ih, hp n (hx n t)]
  have hP : stP mp x = stP cp x := by unfold stP; rw [ho]
  obtain ⟨a1, a2, a3⟩ := h1
  obtain ⟨b1, b2, b3⟩ := h2
  have es : s' = s := Option.some.inj (b1.symm.trans a1)
  subst es
  obtain ⟨⟨s1, s2, s3, s4⟩, hup, hmg, hbig⟩ := stl_pre (h := h) hD hx hr a1
  have em : mgd (vp_updL mp r (stP mp x)) r s' = mgd (vp_updL cp r (stP cp x)) r s' := by
    unfold mgd
    rw [pk_uLs, pk_uLs, pk_uLn s4, pk_uLn s4, hP, hp s' s2]
  rw [em] at b2
  have el := SL_eq b2 a2
  subst el
  refine ⟨rfl, rfl, ?_, hP⟩
  rw [b3, a3, hb s' s2]
  have hlM : ∀ b ∈ l', b < 64 ∧ tb M b = true := fun b hb2 => by
    have q := (hmg b ((a2.2 b).mp hb2)).1
    have := hD.2.2.1 b q
    have := hD.1
    exact ⟨by omega, q⟩
  refine bfold_congr (M := M) (fun y hy => ?_) l' _ hlM (sub_add (by omega) s2 (fun y hy => (hD.2.2.2.2.1 s' y s2 (hD.2.2.2.2.2.1 s' y s2 hy)).1))
  have hyr : y ≠ r := fun w => by rw [w, hr] at hy; cases hy
  rw [pk_uLn hyr, pk_uLn hyr, hp y hy]
/-- the DAG's rows on both sides -/
def DR (N k : Nat) (P : Nat → List Nat) (M tips : Int64) (sc : Nat → Nat) (cs csel : Nat → Int32) (cp cb cf : Nat → Int64) (ms msel : Nat → Int32) (mp mb : Nat → Int64) : Prop :=
  DOK N k M sc cs cp cb ∧ (∀ y, tb M y = true → ms y = cs y ∧ msel y = csel y ∧ mp y = cp y ∧ mb y = cb y) ∧ (∀ x y, tb M x = true → tb M y = true → tb (cf x) y = tb (cp y) x) ∧ (∀ x, x < 60 → tb M x = false → cf x = 0) ∧ (∀ x y, tb M x = true → tb (cf x) y = true → tb M y = true) ∧ (∀ y, tb tips y = true ↔ (tb M y = true ∧ ∀ b, tb M b = true → y ∉ P b)) ∧ (∀ b, tb M b = true → ∀ p ∈ P b, tb M p = true ∧ p < b) ∧ (∀ b y, tb M b = true → (tb (cp b) y = true ↔ ∃ p ∈ P b, y = p ∨ tb (cp p) y = true)) ∧ (∀ b, tb M b = true → b ≠ 0 → ∃ s, csel b = nI s ∧ s ∈ P b) ∧ csel 0 = -1 ∧ tb M 0 = true ∧ P 0 = []
theorem dok_m {N k : Nat} {M : Int64} {sc : Nat → Nat} {cs ms : Nat → Int32} {cp cb mp mb : Nat → Int64} (hD : DOK N k M sc cs cp cb) (ha : ∀ y, tb M y = true → ms y = cs y ∧ mp y = cp y ∧ mb y = cb y) : DOK N k M sc ms mp mb := by
  obtain ⟨d1, d2, d3, d4, d5, d6, d7⟩ := hD
  refine ⟨d1, d2, d3, fun y hy => ?_, fun y z hy hz => ?_, fun y z hy hz => ?_, fun y hy => ?_⟩
  · rw [(ha y hy).1]; exact d4 y hy
  · rw [(ha y hy).2.1] at hz; exact d5 y z hy hz
  · rw [(ha y hy).2.2] at hz
    rw [(ha y hy).2.1]
    exact d6 y z hy hz
  · rw [(ha y hy).2.2, good_congr (ps' := cp) (fun z hz => (ha z (d5 y z hy (d6 y z hy hz)).1).2.1)]
    exact d7 y hy
