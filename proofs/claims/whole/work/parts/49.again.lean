/-! the reference looks again: nothing changes -/
theorem CH_uniq {sc : Nat → Nat} {h sel : Nat → Int32} {ps : Nat → Int64} : ∀ n r L L', CH sc h ps sel n r L → CH sc h ps sel n r L' → L = L' := by
  intro n
  induction n with
  | zero =>
    rintro r L L' ⟨_, rfl⟩ ⟨_, rfl⟩
    rfl
  | succ n ih =>
    intro r L L' h1 h2
    rcases h1 with ⟨a1, rfl⟩ | ⟨s, l, K, r0, r61, s60, hsel, hl, hc, rfl⟩
    · rcases h2 with ⟨_, rfl⟩ | ⟨s, l, K, r0, _⟩
      · rfl
      · exact absurd a1 r0
    · rcases h2 with ⟨b1, _⟩ | ⟨s', l', K', _, _, s60', hsel', hl', hc', rfl⟩
      · exact absurd b1 r0
      · have e : s = s' := (nI_inj (by omega) (by omega)).mp (hsel.symm.trans hsel')
        subst e
        rw [SL_eq hl hl', ih s K K' hc hc']
/-- the virtual row as it must be -/
def F60 (k : Nat) (M tips : Int64) (sc : Nat → Nat) (h cs csel : Nat → Int32) (cp cb : Nat → Int64) (L : List Nat) : Prop := (∃ (s : Nat) (l : List Nat) (B : Int64), STL sc h cp cb k 60 tips s l B ∧ cs 60 = nI (cnt B 60) ∧ csel 60 = nI s ∧ cb 60 = B ∧ cp 60 = M) ∧ CH sc h cp csel 61 60 L
theorem dr_tips {N k : Nat} {P : Nat → List Nat} {M tips : Int64} {sc : Nat → Nat} {cs csel ms msel : Nat → Int32} {cp cb cf mp mb : Nat → Int64} (hR : DR N k P M tips sc cs csel cp cb cf ms msel mp mb) : (∀ y, tb tips y = true → tb M y = true) ∧ (∃ y, tb tips y = true) ∧ tb M 60 = false := by
  have hall := tips_all hR
  obtain ⟨hD, _, _, _, _, ht, _, _, _, _, h0, _⟩ := hR
  refine ⟨fun y hy => ((ht y).mp hy).1, ?_, ?_⟩
  · have h1 : tb (stP cp tips) 0 = true := by rw [hall]; exact h0
    unfold stP at h1
    rw [tb_or, Bool.or_eq_true, tb_orp] at h1
    rcases h1 with q | ⟨p, _, q, _⟩
    · exact ⟨0, q⟩
    · exact ⟨p, q⟩
  · cases t : tb M 60 with
    | false => rfl
    | true =>
      have h1 := hD.2.2.1 60 t
      have h2 := hD.1
      omega
theorem dr_virtual2 {N k : Nat} {P : Nat → List Nat} {M tips : Int64} {sc : Nat → Nat} {cs csel ms msel h mh mpc mpar fso mm fsq ord : Nat → Int32} {cp cb cf mp mb : Nat → Int64} (places : Int32) (hR : DR N k P M tips sc cs csel cp cb cf ms msel mp mb) (hBm : BP 4 N P mpc mpar) (hh : ∀ y, y < N → mh y = h y) :
    ∃ (cs' csel' ms' msel' fso' mm' mm2 fsq' ord' : Nat → Int32) (cp' cb' mp' mb' : Nat → Int64) (L : List Nat), m_dg_settleVirtual (nI k) M tips (nI N) cs h csel cp cb fso cf fsq = some (cs', csel', cp', cb', fso', fsq') ∧ m_mm_tips (nI N) M mpc mpar = some tips ∧ m_mm_work (nI k) mp ms mh msel mb mm 60 tips = some (mp', ms', msel', mb', mm') ∧ m_mm_line M places msel' mp' ms' mh mm' ord = some (nI L.length, mm2, ord') ∧ DR N k P M tips sc cs' csel' cp' cb' cf ms' msel' mp' mb' ∧ VR M cs' csel' ms' msel' fsq' ord' cb' mb' L ∧ F60 k M tips sc h cs' csel' cp' cb' L := by
  obtain ⟨cs', csel', ms', msel', fso', mm', mm2, fsq', ord', cp', cb', mp', mb', L, h1, h2, h3, h4, h5, h6, h7, ⟨s, l, B, S, q1, q2, q3, q4⟩, h9⟩ := dr_virtual (h := h) (fso := fso) (mm := mm) (fsq := fsq) (ord := ord) places hR hBm hh
  refine ⟨cs', csel', ms', msel', fso', mm', mm2, fsq', ord', cp', cb', mp', mb', L, h1, h2, h3, h4, h5, h6, ?_, h9⟩
  obtain ⟨t1, t2, t3⟩ := dr_tips hR
  obtain ⟨s2, l2, B2, _, S2, _, _⟩ := e_settle (h := h) (csel := csel') (fso := fso) h5.1 h5.2.2.1 t1 t2 t3 (by decide)
  have hM60 : ∀ y, tb M y = true → y ≠ 60 := fun y hy w => by rw [w, t3] at hy; cases hy
  obtain ⟨e1, e2, e3, _⟩ := stl_same hR.1 t1 t3 (fun y hy => (h7 y (hM60 y hy)).2.2.1) (fun y hy => (h7 y (hM60 y hy)).2.2.2) S S2
  subst e1
  subst e2
  subst e3
  exact ⟨_, _, _, S2, q1, q2, q3, q4⟩
theorem dr_again {N k : Nat} {P : Nat → List Nat} {M tips : Int64} {sc : Nat → Nat} {cs csel ms msel h mh mpc mpar mm ord sq : Nat → Int32} {cp cb cf mp mb : Nat → Int64} {L : List Nat} (places : Int32) (hR : DR N k P M tips sc cs csel cp cb cf ms msel mp mb) (hBm : BP 4 N P mpc mpar) (hh : ∀ y, y < N → mh y = h y) (hF : F60 k M tips sc h cs csel cp cb L) (hsq : hL sq L) :
    ∃ (ms' msel' mm' mm2 ord' : Nat → Int32) (mp' mb' : Nat → Int64), m_mm_tips (nI N) M mpc mpar = some tips ∧ m_mm_work (nI k) mp ms mh msel mb mm 60 tips = some (mp', ms', msel', mb', mm') ∧ m_mm_line M places msel' mp' ms' mh mm' ord = some (nI L.length, mm2, ord') ∧ DR N k P M tips sc cs csel cp cb cf ms' msel' mp' mb' ∧ VR M cs csel ms' msel' sq ord' cb mb' L := by
  obtain ⟨cs', csel', ms', msel', fso', mm', mm2, fsq', ord', cp', cb', mp', mb', L2, h1, h2, h3, h4, h5, h6, h7, ⟨s2, l2, B2, S2, q1, q2, q3, q4⟩, h9⟩ := dr_virtual (h := h) (fso := sq) (mm := mm) (fsq := sq) (ord := ord) places hR hBm hh
  obtain ⟨⟨s, l, B, S, p1, p2, p3, p4⟩, hC⟩ := hF
  obtain ⟨t1, t2, t3⟩ := dr_tips hR
  obtain ⟨e1, e2, e3, _⟩ := stl_same hR.1 t1 t3 (fun _ _ => rfl) (fun _ _ => rfl) S S2
  subst e1
  subst e2
  subst e3
  have c1 : cs' = cs := by
    funext y
    by_cases e : y = 60
    · rw [e, q1, p1]
    · exact (h7 y e).1
  have c2 : csel' = csel := by
    funext y
    by_cases e : y = 60
    · rw [e, q2, p2]
    · exact (h7 y e).2.1
  have c3 : cp' = cp := by
    funext y
    by_cases e : y = 60
    · rw [e, q4, p4]
    · exact (h7 y e).2.2.1
  have c4 : cb' = cb := by
    funext y
    by_cases e : y = 60
    · rw [e, q3, p3]
    · exact (h7 y e).2.2.2
  subst c1
  subst c2
  subst c3
  subst c4
  have eL := CH_uniq 61 60 L2 L h9 hC
  subst eL
  obtain ⟨v1, v2, v3, _, v5, v6, v7, v8⟩ := h6
  exact ⟨ms', msel', mm', mm2, ord', mp', mb', h2, h3, h4, h5, v1, v2, v3, hsq, v5, v6, v7, v8⟩
