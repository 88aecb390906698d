/-! the tips -/
theorem e_tips {N : Nat} {P : Nat → List Nat} {fc fe : Nat → Int32} {M : Int64} (h : BP 4 N P fc fe) (hN : N ≤ 60) (hM : ∀ y, tb M y = true → y < N) : ∃ T : Int64, m_mm_tips (nI N) M fc fe = some T ∧ ∀ y, tb T y = true ↔ (tb M y = true ∧ ∀ b, tb M b = true → y ∉ P b) := by
  have inner : ∀ b, b < N → ∀ S : Int64, ∃ S' : Int64, mo_lp (m_mm_tips_L18 M fc fe (nI b)) 1000 (S, 0) = some S' ∧ ∀ y, tb S' y = true ↔ (tb S y = true ∧ (tb M b = true → y ∉ P b)) := by
    intro b hb S
    obtain ⟨h1, h2, h3⟩ := h b hb
    obtain ⟨o, q1, q2⟩ := lp_ix (step := m_mm_tips_L18 M fc fe (nI b)) (P b).length (fun j z => ∃ S1 : Int64, z = (S1, nI j) ∧ ∀ y, tb S1 y = true ↔ (tb S y = true ∧ (tb M b = true → y ∉ (P b).take j))) (fun o => ∀ y, tb o y = true ↔ (tb S y = true ∧ (tb M b = true → y ∉ P b))) (by
      intro back j z hj hz ih
      obtain ⟨S1, rfl, hS⟩ := hz
      unfold m_mm_tips_L18
      dsimp only
      rw [mo_rIn (by omega) (by decide), h1]
      by_cases e : j = (P b).length
      · rw [mo_T (nI_le (by omega) (by omega))]
        rw [e, List.take_length] at hS
        exact ⟨_, rfl, hS⟩
      · have hj2 : j < (P b).length := by omega
        have h4 := h3 j _ (List.getElem?_eq_getElem hj2)
        rw [mo_F (nI_ge hj2 (by omega)), e_in' _ (by omega), mo_bs]
        cases t : tb M b with
        | false =>
          rw [mo_T bI_f]
          refine ⟨_, rfl, fun y => ?_⟩
          rw [hS, t]
          exact ⟨fun w => ⟨w.1, fun z => by cases z⟩, fun w => ⟨w.1, fun z => by cases z⟩⟩
        | true =>
          rw [mo_F (by decide), show (4 : Int32) * nI b + nI j = nI (4 * b + j) from ix_m 4 b j, mo_rIn (by omega) (by decide), h4.1, ← nI_succ]
          have ht : (P b).take (j + 1) = (P b).take j ++ [(P b)[j]] := (List.take_append_getElem hj2).symm
          have hnew : ∀ y, tb (S1 &&& (bi (P b)[j] ^^^ (-1))) y = true ↔ (tb S y = true ∧ (tb M b = true → y ∉ (P b).take (j + 1))) := by
            intro y
            by_cases hy : y < 64
            · rw [tb_and, tb_not _ hy, tb_bi (by omega), Bool.and_eq_true, hS, Bool.not_eq_true', decide_eq_false_iff_not, ht, List.mem_append, List.mem_singleton, t]
              constructor
              · rintro ⟨⟨w1, w2⟩, w3⟩
                exact ⟨w1, fun _ w => w.elim (w2 rfl) w3⟩
              · rintro ⟨w1, w2⟩
                exact ⟨⟨w1, fun _ w => w2 rfl (Or.inl w)⟩, fun w => w2 rfl (Or.inr w)⟩
            · constructor
              · intro w; rw [tb_big (by omega)] at w; cases w
              · rintro ⟨w, -⟩; rw [tb_big (by omega)] at w; cases w
          have w := ih (S1 &&& (bi (P b)[j] ^^^ (-1)), nI (j + 1)) hj2 ⟨_, rfl, hnew⟩
          rw [t] at w
          exact w) 1000 0 (S, 0) (Nat.zero_le _) ⟨S, rfl, fun y => ⟨fun w => ⟨w, fun _ => by simp⟩, fun w => w.1⟩⟩ (by omega)
    exact ⟨o, q1, q2⟩
  obtain ⟨o, q1, q2⟩ := lp_ix (step := m_mm_tips_L7 (nI N) M fc fe) N (fun j z => ∃ S : Int64, z = (S, nI j) ∧ ∀ y, tb S y = true ↔ (tb M y = true ∧ ∀ b, b < j → tb M b = true → y ∉ P b)) (fun o => ∀ y, tb o y = true ↔ (tb M y = true ∧ ∀ b, tb M b = true → y ∉ P b)) (by
    intro back j z hj hz ih
    obtain ⟨S, rfl, hS⟩ := hz
    unfold m_mm_tips_L7
    dsimp only
    by_cases e : j = N
    · subst e
      rw [mo_T (nI_le (Nat.le_refl _) (by omega))]
      refine ⟨_, rfl, fun y => ?_⟩
      rw [hS]
      exact ⟨fun w => ⟨w.1, fun b hb => w.2 b (hM b hb) hb⟩, fun w => ⟨w.1, fun b _ hb => w.2 b hb⟩⟩
    · rw [mo_F (nI_ge (by omega) (by omega))]
      obtain ⟨S', r1, r2⟩ := inner j (by omega) S
      rw [r1, mo_bs, ← nI_succ]
      refine ih _ (by omega) ⟨S', rfl, fun y => ?_⟩
      rw [r2, hS]
      constructor
      · rintro ⟨⟨w1, w2⟩, w3⟩
        refine ⟨w1, fun b hb => ?_⟩
        by_cases eb : b = j
        · rw [eb]; exact w3
        · exact w2 b (by omega)
      · rintro ⟨w1, w2⟩
        exact ⟨⟨w1, fun b hb => w2 b (by omega)⟩, w2 j (by omega)⟩) 1000 0 (M, 0) (Nat.zero_le _) ⟨M, rfl, fun y => ⟨fun w => ⟨w, fun b hb => by omega⟩, fun w => w.1⟩⟩ (by omega)
  refine ⟨o, ?_, q2⟩
  unfold m_mm_tips
  rw [q1, mo_bs]
theorem tb_iff {x y : Int64} (h : ∀ b, tb x b = true ↔ tb y b = true) : x = y := tb_ext (fun b _ => by
  cases t : tb x b with
  | true => exact ((h b).mp t).symm
  | false =>
    cases t2 : tb y b with
    | false => rfl
    | true => rw [(h b).mpr t2] at t; cases t)
/-! the ORDER -/
def CH (sc : Nat → Nat) (h : Nat → Int32) (ps : Nat → Int64) (sel : Nat → Int32) : Nat → Nat → List Nat → Prop
  | 0, r, L => r = 0 ∧ L = []
  | n + 1, r, L => (r = 0 ∧ L = []) ∨ ∃ (s : Nat) (l L' : List Nat), r ≠ 0 ∧ r < 61 ∧ s < 60 ∧ sel r = nI s ∧ SL sc h (mgd ps r s) l ∧ CH sc h ps sel n s L' ∧ L = L' ++ s :: l
theorem nodup_cnt {L : List Nat} {x : Int64} : ∀ n, n ≤ 64 → L.Nodup → (∀ y, y ∈ L ↔ (tb x y = true ∧ y < n)) → L.length = cnt x n := by
  intro n
  induction n generalizing L with
  | zero =>
    intro _ _ h
    cases L with
    | nil => rfl
    | cons a l => have := ((h a).mp List.mem_cons_self).2; omega
  | succ n ih =>
    intro hn hd h
    show _ = cnt x n + (tb x n).toNat
    cases t : tb x n with
    | false =>
      refine ih (by omega) hd (fun y => ?_)
      rw [h]
      constructor
      · rintro ⟨q1, q2⟩
        exact ⟨q1, by have : y ≠ n := fun w => by rw [w, t] at q1; cases q1
                      omega⟩
      · rintro ⟨q1, q2⟩
        exact ⟨q1, by omega⟩
    | true =>
      have hin : n ∈ L := (h n).mpr ⟨t, by omega⟩
      have := ih (L := L.erase n) (by omega) (hd.erase n) (fun y => by
        rw [hd.mem_erase_iff, h]
        constructor
        · rintro ⟨q1, q2, q3⟩
          exact ⟨q2, by omega⟩
        · rintro ⟨q1, q2⟩
          exact ⟨by omega, q1, by omega⟩)
      rw [List.length_erase_of_mem hin] at this
      have hl : 0 < L.length := List.length_pos_of_mem hin
      show _ = cnt x n + 1
      omega
theorem SL_ex {sc : Nat → Nat} (h : Nat → Int32) {x : Int64} {fs : Nat → Int32} (hs : ∀ b, b < 60 → tb x b = true → fs b = nI (sc b) ∧ sc b ≤ 64) (hx : ∀ b, 60 ≤ b → tb x b = false) : ∃ l, SL sc h x l := by
  obtain ⟨l, _, _, h2, _⟩ := e_sort (h := h) (f := fs) (Nat.le_refl 60) hs hx
  exact ⟨l, h2⟩
/-- a row whose past is its chosen parent's, that parent, and what it merges -/
theorem ch_step {sc : Nat → Nat} {h cs sel : Nat → Int32} {ps : Nat → Int64} {r s n : Nat} {L' : List Nat} (hr0 : r ≠ 0) (hr : r < 61) (hs : s < 60) (hsel : sel r = nI s) (hin : tb (ps r) s = true) (hsub : ∀ y, tb (ps s) y = true → tb (ps r) y = true) (hss : tb (ps s) s = false) (hbig : ∀ y, 60 ≤ y → tb (ps r) y = false) (hsc : ∀ b, tb (ps r) b = true → cs b = nI (sc b) ∧ sc b ≤ 64) (hc : CH sc h ps sel n s L') (hm : ∀ y, y ∈ L' ↔ tb (ps s) y = true) (hd : L'.Nodup) : ∃ L, CH sc h ps sel (n + 1) r L ∧ (∀ y, y ∈ L ↔ tb (ps r) y = true) ∧ L.Nodup := by
  have hmg : ∀ y, tb (mgd ps r s) y = true ↔ (tb (ps r) y = true ∧ tb (ps s) y = false ∧ y ≠ s) := by
    intro y
    by_cases hy : y < 64
    · rw [tb_mgd (by omega) hy, Bool.and_eq_true, Bool.and_eq_true, Bool.not_eq_true', Bool.not_eq_true', decide_eq_false_iff_not]
      exact ⟨fun q => ⟨q.1.1, q.1.2, q.2⟩, fun q => ⟨⟨q.1, q.2.1⟩, q.2.2⟩⟩
    · constructor
      · intro w; rw [tb_big (by omega)] at w; cases w
      · rintro ⟨w, -⟩; rw [tb_big (by omega)] at w; cases w
  obtain ⟨l, hl⟩ := SL_ex (sc := sc) (fs := cs) h (x := mgd ps r s) (fun b _ hb => hsc b ((hmg b).mp hb).1) (fun b hb => by
    cases t : tb (mgd ps r s) b with
    | false => rfl
    | true => exact absurd ((hmg b).mp t).1 (by rw [hbig b hb]; decide))
  refine ⟨L' ++ s :: l, Or.inr ⟨s, l, L', hr0, hr, hs, hsel, hl, hc, rfl⟩, fun y => ?_, ?_⟩
  · rw [List.mem_append, List.mem_cons, hm, hl.2, hmg]
    constructor
    · rintro (q | q | q)
      · exact hsub y q
      · rw [q]; exact hin
      · exact q.1
    · intro q
      cases t : tb (ps s) y with
      | true => exact Or.inl rfl
      | false =>
        by_cases e : y = s
        · exact Or.inr (Or.inl e)
        · exact Or.inr (Or.inr ⟨q, rfl, e⟩)
  · rw [List.nodup_append]
    refine ⟨hd, List.nodup_cons.mpr ⟨fun w => ((hmg s).mp ((hl.2 s).mp w)).2.2 rfl, SL_nd hl⟩, fun a ha b hb e => ?_⟩
    subst e
    have ha := (hm a).mp ha
    rcases List.mem_cons.mp hb with w | w
    · rw [w, hss] at ha; cases ha
    · rw [((hmg a).mp ((hl.2 a).mp w)).2.1] at ha; cases ha
