theorem app_get {L' l : List Nat} {s i b : Nat} (h : (L' ++ s :: l)[i]? = some b) : (i < L'.length ∧ L'[i]? = some b) ∨ (i = L'.length ∧ b = s) ∨ (L'.length < i ∧ i < L'.length + 1 + l.length ∧ l[i - (L'.length + 1)]? = some b) := by
  rw [List.getElem?_append] at h
  by_cases e : i < L'.length
  · rw [if_pos e] at h
    exact Or.inl ⟨e, h⟩
  · rw [if_neg e] at h
    by_cases e2 : i = L'.length
    · subst e2
      rw [Nat.sub_self] at h
      cases h
      exact Or.inr (Or.inl ⟨rfl, rfl⟩)
    · obtain ⟨m, hm⟩ : ∃ m, i - L'.length = m + 1 := ⟨i - L'.length - 1, by omega⟩
      rw [hm, List.getElem?_cons_succ] at h
      have hl := (List.getElem?_eq_some_iff.mp h).1
      rw [show m = i - (L'.length + 1) by omega] at h
      exact Or.inr (Or.inr ⟨by omega, by omega, h⟩)
theorem e_cp {α : Type} {f g : Nat → Int32} {nf ng d m : Nat} {k : (Nat → Int32) → Option α} (h1 : m ≤ nf) (h2 : d + m ≤ ng) (hf : nf < 2 ^ 31) (hg : ng < 2 ^ 31) : mo_cp f nf g ng 0 (nI d) (nI m) k = k (va_cpy f g 0 d m) := by
  unfold mo_cp
  have e0 : (0 : Int32).toNatClampNeg = 0 := by decide
  rw [e0, nI_clamp (by omega), nI_clamp (by omega), if_neg]
  rintro (q | q | q | q | q)
  · exact absurd q (by decide)
  · exact nI_pos (by omega) q
  · exact nI_pos (by omega) q
  · omega
  · omega
theorem e_svL20 {N : Nat} {M : Int64} {sc : Nat → Nat} {h cs sel : Nat → Int32} {ps : Nat → Int64} (hN : N ≤ 60) (hM : ∀ y, tb M y = true → y < N ∧ cs y = nI (sc y) ∧ sc y ≤ 64) (hps : ∀ r y, (tb M r = true ∨ r = 60) → tb (ps r) y = true → tb M y = true) : ∀ n r L, CH sc h ps sel n r L → (tb M r = true ∨ r = 60) → (∀ y ∈ L, tb M y = true) → ∀ (step f : Nat) (fso fsq : Nat → Int32), step + L.length ≤ 60 → L.length < f → ∃ fso' fsq' : Nat → Int32, mo_lp (m_dg_settleVirtual_L20 (nI N) h cs sel ps) f (nI L.length, nI r, nI step, fso, fsq) = some (fso', fsq') ∧ hL fsq' L ∧ ∀ i, L.length ≤ i → fsq' i = fsq i := by
  have base : ∀ (step f : Nat) (fso fsq : Nat → Int32), step ≤ 60 → 0 < f → mo_lp (m_dg_settleVirtual_L20 (nI N) h cs sel ps) f (nI 0, nI 0, nI step, fso, fsq) = some (fso, fsq) := by
    intro step f fso fsq hs hf
    obtain ⟨f, rfl⟩ : ∃ g, f = g + 1 := ⟨f - 1, by omega⟩
    show m_dg_settleVirtual_L20 (nI N) h cs sel ps (mo_lp (m_dg_settleVirtual_L20 (nI N) h cs sel ps) f) _ = _
    generalize mo_lp (m_dg_settleVirtual_L20 (nI N) h cs sel ps) f = back
    unfold m_dg_settleVirtual_L20
    dsimp only
    by_cases e : step = 60
    · rw [e, mo_T (by decide)]
    · rw [mo_F (show ¬ (60 : Int32) ≤ nI step from nI_ge (b := 60) (by omega) (by decide)), mo_T (by decide)]
  intro n
  induction n with
  | zero =>
    rintro r L ⟨rfl, rfl⟩ _ _ step f fso fsq hs hf
    exact ⟨fso, fsq, base step f fso fsq (by simpa using hs) hf, hL_nil _, fun i _ => rfl⟩
  | succ n ih =>
    intro r L hc hr hLM step f fso fsq hs hf
    rcases hc with ⟨rfl, rfl⟩ | ⟨s, l, L', r0, r61, s60, hsel, hl, hc, rfl⟩
    · exact ⟨fso, fsq, base step f fso fsq (by simpa using hs) hf, hL_nil _, fun i _ => rfl⟩
    · have hlen : (L' ++ s :: l).length = L'.length + 1 + l.length := by
        rw [List.length_append, List.length_cons]
        omega
      have hsM : tb M s = true := hLM s (List.mem_append_right _ List.mem_cons_self)
      have hmg : ∀ b, tb (mgd ps r s) b = true → tb M b = true := fun b hb => hLM b (List.mem_append_right _ (List.mem_cons_of_mem _ ((hl.2 b).mpr hb)))
      rw [hlen] at hs hf
      obtain ⟨f, rfl⟩ : ∃ g, f = g + 1 := ⟨f - 1, by omega⟩
      obtain ⟨l2, f2, E, S2, H2, _⟩ := e_sort (h := h) (f := fso) hN (fun b _ hb => (hM b (hmg b hb)).2) (fun b hb => by
        cases t : tb (mgd ps r s) b with
        | false => rfl
        | true => have := (hM b (hmg b t)).1; omega)
      have e2 := SL_eq S2 hl
      subst e2
      obtain ⟨fso', fsq', I1, I2, I3⟩ := ih s L' hc (Or.inl hsM) (fun y hy => hLM y (List.mem_append_left _ hy)) (step + 1) f f2 (upd (va_cpy f2 fsq 0 (L'.length + 1) l2.length) L'.length (nI s)) (by omega) (by omega)
      refine ⟨fso', fsq', ?_, ?_, ?_⟩
      · show m_dg_settleVirtual_L20 (nI N) h cs sel ps (mo_lp (m_dg_settleVirtual_L20 (nI N) h cs sel ps) f) _ = _
        generalize mo_lp (m_dg_settleVirtual_L20 (nI N) h cs sel ps) f = back at I1 ⊢
        unfold m_dg_settleVirtual_L20
        dsimp only
        have e3 : nI (L' ++ s :: l2).length - nI l2.length = nI (L'.length + 1) := by
          rw [hlen, pk_sub (by omega)]
          congr 1
          omega
        rw [mo_F (show ¬ (60 : Int32) ≤ nI step from nI_ge (b := 60) (by omega) (by decide)), mo_F (nI_ne0 (by omega) (by omega)), e_mergedBy r61 (by omega) hsel, mo_bs, E, mo_bs]
        dsimp only
        rw [e3, e_cp (by omega) (by omega) (by decide) (by decide), mo_rIn r61 (by decide), hsel, pk_m1, mo_wIn (by omega) (by decide), ← nI_succ]
        exact I1
      · intro i b hb
        rcases app_get hb with ⟨q1, q2⟩ | ⟨q1, q2⟩ | ⟨q1, q2, q3⟩
        · exact I2 i b q2
        · subst q1
          rw [I3 _ (Nat.le_refl _), pk_us, q2]
        · rw [I3 i (by omega), pk_un (by omega), pk_cpy_in (by omega) (by omega), Nat.zero_add]
          exact H2 _ b q3
      · intro i hi
        rw [hlen] at hi
        rw [I3 i (by omega), pk_un (by omega), pk_cpy_out (by omega)]
theorem i32_m1 (x : Int32) : x + (-1) = x - 1 := by rw [Int32.sub_eq_add_neg]
theorem e_lineL36 {l : List Nat} {mm ord : Nat → Int32} {A : Nat} (hl : hL mm l) (hA : A + l.length ≤ 64) : ∃ o, mo_lp (m_mm_line_L36 mm) 1000 (nI (A + l.length), nI l.length - 1, ord) = some o ∧ ∃ ord' : Nat → Int32, o = (nI A, ord') ∧ (∀ i b, l[i]? = some b → ord' (A + i) = nI b) ∧ ∀ i, (i < A ∨ A + l.length ≤ i) → ord' i = ord i := by
  refine lp_ix l.length (fun j z => ∃ g : Nat → Int32, z = (nI (A + (l.length - j)), nI (l.length - j) - 1, g) ∧ (∀ i b, l.length - j ≤ i → l[i]? = some b → g (A + i) = nI b) ∧ ∀ i, (i < A + (l.length - j) ∨ A + l.length ≤ i) → g i = ord i) (fun o => ∃ ord' : Nat → Int32, o = (nI A, ord') ∧ (∀ i b, l[i]? = some b → ord' (A + i) = nI b) ∧ ∀ i, (i < A ∨ A + l.length ≤ i) → ord' i = ord i) ?_ 1000 0 (nI (A + l.length), nI l.length - 1, ord) (Nat.zero_le _) ⟨ord, rfl, fun i b h1 h2 => by have := (List.getElem?_eq_some_iff.mp h2).1; omega, fun i _ => rfl⟩ (by omega)
  intro back j z hj hz ih
  obtain ⟨g, rfl, h1, h2⟩ := hz
  unfold m_mm_line_L36
  dsimp only
  by_cases e : j = l.length
  · subst e
    rw [Nat.sub_self] at h1 h2 ⊢
    rw [mo_T (by decide)]
    exact ⟨_, rfl, g, rfl, fun i b hb => h1 i b (Nat.zero_le _) hb, h2⟩
  · obtain ⟨c, hc⟩ : ∃ c, l.length - j = c + 1 := ⟨l.length - j - 1, by omega⟩
    have hcl : c < l.length := by omega
    have e1 : nI (c + 1) - 1 = nI c := pk_sub (b := 1) (by omega)
    rw [hc] at h1 h2 ⊢
    rw [e1, mo_F (nI_pos (by omega)), mo_rIn (by omega) (by decide), hl c _ (List.getElem?_eq_getElem hcl), show A + (c + 1) = (A + c) + 1 by omega, pk_m1, mo_wIn (by omega) (by decide), i32_m1]
    refine ih _ (by omega) ⟨upd g (A + c) (nI l[c]), by rw [show l.length - (j + 1) = c by omega], fun i b hi hb => ?_, fun i hi => ?_⟩
    · by_cases ei : i = c
      · subst ei
        rw [pk_us]
        rw [List.getElem?_eq_getElem hcl] at hb
        rw [Option.some.inj hb]
      · rw [pk_un (by omega)]
        exact h1 i b (by omega) hb
    · rw [pk_un (by omega)]
      exact h2 i (by omega)
theorem e_lineL16 {M : Int64} {sc : Nat → Nat} {h ms sel : Nat → Int32} {ps : Nat → Int64} (hM : ∀ y, tb M y = true → y < 60 ∧ ms y = nI (sc y) ∧ sc y ≤ 64) (h0 : sel 0 = -1) : ∀ n r L, CH sc h ps sel n r L → (∀ y ∈ L, tb M y = true) → ∀ (f : Nat) (mm ord : Nat → Int32), L.length ≤ 60 → L.length < f → ∃ mm' ord' : Nat → Int32, mo_lp (m_mm_line_L16 sel ps ms h) f (nI L.length, nI r, mm, ord) = some (mm', ord') ∧ hL ord' L ∧ ∀ i, L.length ≤ i → ord' i = ord i := by
  have base : ∀ (f : Nat) (mm ord : Nat → Int32), 0 < f → mo_lp (m_mm_line_L16 sel ps ms h) f (nI 0, nI 0, mm, ord) = some (mm, ord) := by
    intro f mm ord hf
    obtain ⟨f, rfl⟩ : ∃ g, f = g + 1 := ⟨f - 1, by omega⟩
    show m_mm_line_L16 sel ps ms h (mo_lp (m_mm_line_L16 sel ps ms h) f) _ = _
    generalize mo_lp (m_mm_line_L16 sel ps ms h) f = back
    unfold m_mm_line_L16
    dsimp only
    rw [mo_rIn (by decide) (by decide), h0, mo_T (by decide)]
  intro n
  induction n with
  | zero =>
    rintro r L ⟨rfl, rfl⟩ _ f mm ord _ hf
    exact ⟨mm, ord, base f mm ord hf, hL_nil _, fun i _ => rfl⟩
  | succ n ih =>
    intro r L hc hLM f mm ord hs hf
    rcases hc with ⟨rfl, rfl⟩ | ⟨s, l, L', r0, r61, s60, hsel, hl, hc, rfl⟩
    · exact ⟨mm, ord, base f mm ord hf, hL_nil _, fun i _ => rfl⟩
    · have hlen : (L' ++ s :: l).length = (L'.length + 1) + l.length := by
        rw [List.length_append, List.length_cons]
        omega
      have hmg : ∀ b, tb (mgd ps r s) b = true → tb M b = true := fun b hb => hLM b (List.mem_append_right _ (List.mem_cons_of_mem _ ((hl.2 b).mpr hb)))
      rw [hlen] at hs hf
      obtain ⟨f, rfl⟩ : ∃ g, f = g + 1 := ⟨f - 1, by omega⟩
      obtain ⟨l2, m2, E, S2, H2, _⟩ := e_merge (fm := mm) (h := h) r61 (by omega) hsel (fun b _ hb => (hM b (hmg b hb)).2) (fun b hb => by
        cases t : tb (mgd ps r s) b with
        | false => rfl
        | true => have := (hM b (hmg b t)).1; omega)
      have e2 := SL_eq S2 hl
      subst e2
      obtain ⟨o, J1, ord2, rfl, J2, J3⟩ := e_lineL36 (ord := ord) (A := L'.length + 1) H2 (by omega)
      obtain ⟨mm', ord', I1, I2, I3⟩ := ih s L' hc (fun y hy => hLM y (List.mem_append_left _ hy)) f m2 (upd ord2 L'.length (nI s)) (by omega) (by omega)
      refine ⟨mm', ord', ?_, ?_, ?_⟩
      · show m_mm_line_L16 sel ps ms h (mo_lp (m_mm_line_L16 sel ps ms h) f) _ = _
        generalize mo_lp (m_mm_line_L16 sel ps ms h) f = back at I1 ⊢
        unfold m_mm_line_L16
        dsimp only
        rw [mo_rIn r61 (by decide), hsel, mo_F (nI_pos (by omega)), E, mo_bs]
        dsimp only
        rw [hlen, J1, mo_bs]
        dsimp only
        rw [mo_rIn r61 (by decide), hsel, pk_m1, mo_wIn (by omega) (by decide)]
        exact I1
      · intro i b hb
        rcases app_get hb with ⟨q1, q2⟩ | ⟨q1, q2⟩ | ⟨q1, q2, q3⟩
        · exact I2 i b q2
        · subst q1
          rw [I3 _ (Nat.le_refl _), pk_us, q2]
        · rw [I3 i (by omega), pk_un (by omega)]
          have := J2 _ b q3
          rw [show L'.length + 1 + (i - (L'.length + 1)) = i by omega] at this
          exact this
      · intro i hi
        rw [hlen] at hi
        rw [I3 i (by omega), pk_un (by omega), J3 i (by omega)]
/-- every row of the DAG has its list -/
theorem ch_mem {M : Int64} {P : Nat → List Nat} {sc : Nat → Nat} {cs sel : Nat → Int32} {ps : Nat → Int64} (h : Nat → Int32) (hM : ∀ y, tb M y = true → y < 60 ∧ cs y = nI (sc y) ∧ sc y ≤ 64) (hp : ∀ b, tb M b = true → ∀ p ∈ P b, tb M p = true ∧ p < b) (hpc : ∀ b y, tb M b = true → (tb (ps b) y = true ↔ ∃ p ∈ P b, y = p ∨ tb (ps p) y = true)) (hps : ∀ b y, tb M b = true → tb (ps b) y = true → tb M y = true ∧ y < b) (hsel : ∀ b, tb M b = true → b ≠ 0 → ∃ s, sel b = nI s ∧ s ∈ P b) (hP0 : P 0 = []) : ∀ n r, r < n → tb M r = true → ∃ L, CH sc h ps sel n r L ∧ (∀ y, y ∈ L ↔ tb (ps r) y = true) ∧ L.Nodup := by
  intro n
  induction n with
  | zero => intro r hr; omega
  | succ n ih =>
    intro r hr hrM
    by_cases e : r = 0
    · subst e
      refine ⟨[], Or.inl ⟨rfl, rfl⟩, fun y => ⟨fun q => absurd q List.not_mem_nil, fun q => ?_⟩, List.nodup_nil⟩
      obtain ⟨p, q1, _⟩ := (hpc 0 y hrM).mp q
      rw [hP0] at q1
      exact absurd q1 List.not_mem_nil
    · obtain ⟨s, s1, s2⟩ := hsel r hrM e
      obtain ⟨s3, s4⟩ := hp r hrM s s2
      obtain ⟨L', c1, c2, c3⟩ := ih s (by omega) s3
      have hr60 := (hM r hrM).1
      refine ch_step (cs := cs) e (by omega) (by omega) s1 ((hpc r s hrM).mpr ⟨s, s2, Or.inl rfl⟩) (fun y hy => (hpc r y hrM).mpr ⟨s, s2, Or.inr hy⟩) ?_ (fun y hy => ?_) (fun b hb => (hM b (hps r b hrM hb).1).2) c1 c2 c3
      · cases t : tb (ps s) s with
        | false => rfl
        | true => have := (hps s s s3 t).2; omega
      · cases t : tb (ps r) y with
        | false => rfl
        | true => have := (hps r y hrM t).2; omega
