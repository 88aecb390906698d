/-! parents -/
theorem ix_c (c b k : Nat) : nI b * nI c + nI k = nI (c * b + k) := by rw [pk_mul, nI_add, Nat.mul_comm]
theorem ix_m (c b k : Nat) : nI c * nI b + nI k = nI (c * b + k) := by rw [pk_mul, nI_add]
/-- the parents (or what it holds) of each of the first n blocks, in rows of c each -/
def BP (c n : Nat) (P : Nat → List Nat) (fc fe : Nat → Int32) : Prop := ∀ b, b < n → fc b = nI (P b).length ∧ (P b).length ≤ c ∧ ∀ k x, (P b)[k]? = some x → fe (c * b + k) = nI x ∧ x < 60
def so : List Nat → Int64 → Int64
  | [], S => S
  | b :: l, S => so l (S ||| bi b)
theorem tb_so : ∀ (l : List Nat) (S : Int64) (y : Nat), (∀ b ∈ l, b < 64) → (tb (so l S) y = true ↔ tb S y = true ∨ y ∈ l) := by
  intro l
  induction l with
  | nil =>
    intro S y _
    exact ⟨Or.inl, fun q => q.elim id (fun w => absurd w List.not_mem_nil)⟩
  | cons b l ih =>
    intro S y h
    show tb (so l (S ||| bi b)) y = true ↔ _
    rw [ih _ y (fun c hc => h c (List.mem_cons_of_mem _ hc)), tb_or, tb_bi (h b List.mem_cons_self), Bool.or_eq_true, decide_eq_true_iff, List.mem_cons]
    constructor
    · rintro ((q | q) | q)
      · exact Or.inl q
      · exact Or.inr (Or.inl q)
      · exact Or.inr (Or.inr q)
    · rintro (q | q | q)
      · exact Or.inl (Or.inl q)
      · exact Or.inl (Or.inr q)
      · exact Or.inr q
theorem so_drop {l : List Nat} {j : Nat} (hj : j < l.length) (S : Int64) : so (l.drop j) S = so (l.drop (j + 1)) (S ||| bi l[j]) := by
  rw [List.drop_eq_getElem_cons hj]
  rfl
theorem e_parentSet {n b : Nat} {P : Nat → List Nat} {fc fe : Nat → Int32} (h : BP 4 n P fc fe) (hn : n ≤ 60) (hb : b < n) : m_bl_parentSet fc fe (nI b) = some (so (P b) 0) := by
  obtain ⟨h1, h2, h3⟩ := h b hb
  have key : mo_lp (m_bl_parentSet_L5 fc fe (nI b)) 1000 (0, 0) = some (so (P b) 0) := by
    refine so_eq (lp_ix (P b).length (fun j z => ∃ S : Int64, z = (S, nI j) ∧ so ((P b).drop j) S = so (P b) 0) (fun o => o = so (P b) 0) ?_ 1000 0 (0, 0) (Nat.zero_le _) ⟨0, rfl, rfl⟩ (by omega))
    intro back j z hj hz ih
    obtain ⟨S, rfl, hS⟩ := hz
    unfold m_bl_parentSet_L5
    dsimp only
    rw [mo_rIn (by omega) (by decide), h1]
    by_cases e : j = (P b).length
    · rw [mo_T (nI_le (by omega) (by omega))]
      rw [e, List.drop_length] at hS
      exact ⟨_, rfl, hS⟩
    · have hj2 : j < (P b).length := by omega
      have h4 := h3 j _ (List.getElem?_eq_getElem hj2)
      rw [mo_F (nI_ge hj2 (by omega))]
      unfold m_bl_parentAt
      rw [show nI b * 4 + nI j = nI (4 * b + j) from ix_c 4 b j, mo_rIn (by omega) (by decide), mo_bs, h4.1, e_bit, mo_bs, ← nI_succ]
      exact ih _ hj2 ⟨_, rfl, by rw [← so_drop hj2]; exact hS⟩
  unfold m_bl_parentSet
  rw [key, mo_bs]
theorem e_enterL5 {n b : Nat} {P : Nat → List Nat} {fc fe : Nat → Int32} (h : BP 4 n P fc fe) (hn : n ≤ 60) (hb : b < n) : mo_lp (m_mm_enter_L5 fc fe (nI b)) 1000 (0, 0) = some (so (P b) 0) := by
  obtain ⟨h1, h2, h3⟩ := h b hb
  refine so_eq (lp_ix (P b).length (fun j z => ∃ S : Int64, z = (S, nI j) ∧ so ((P b).drop j) S = so (P b) 0) (fun o => o = so (P b) 0) ?_ 1000 0 (0, 0) (Nat.zero_le _) ⟨0, rfl, rfl⟩ (by omega))
  intro back j z hj hz ih
  obtain ⟨S, rfl, hS⟩ := hz
  unfold m_mm_enter_L5
  dsimp only
  rw [mo_rIn (by omega) (by decide), h1]
  by_cases e : j = (P b).length
  · rw [mo_T (nI_le (by omega) (by omega))]
    rw [e, List.drop_length] at hS
    exact ⟨_, rfl, hS⟩
  · have hj2 : j < (P b).length := by omega
    have h4 := h3 j _ (List.getElem?_eq_getElem hj2)
    rw [mo_F (nI_ge hj2 (by omega)), show (4 : Int32) * nI b + nI j = nI (4 * b + j) from ix_m 4 b j, mo_rIn (by omega) (by decide), h4.1, ← nI_succ]
    exact ih _ hj2 ⟨_, rfl, by
      rw [so_drop hj2] at hS
      exact hS⟩
theorem e_complete {n b : Nat} {P : Nat → List Nat} {fc fe : Nat → Int32} {M : Int64} (h : BP 4 n P fc fe) (hn : n ≤ 60) (hb : b < n) : m_mm_complete M fc fe (nI b) = some (bI (pB (∀ p ∈ P b, tb M p = true))) := by
  obtain ⟨h1, h2, h3⟩ := h b hb
  have key : mo_lp (m_mm_complete_L4 M fc fe (nI b)) 1000 (1, 0) = some (bI (pB (∀ p ∈ P b, tb M p = true))) := by
    refine so_eq (lp_ix (P b).length (fun j z => z = (bI (pB (∀ p ∈ (P b).take j, tb M p = true)), nI j)) (fun o => o = bI (pB (∀ p ∈ P b, tb M p = true))) ?_ 1000 0 (1, 0) (Nat.zero_le _) (by rw [pB_t (fun p hp => absurd hp (by simp))]; rfl) (by omega))
    intro back j z hj hz ih
    subst hz
    unfold m_mm_complete_L4
    dsimp only
    rw [mo_rIn (by omega) (by decide), h1]
    by_cases e : j = (P b).length
    · rw [mo_T (nI_le (by omega) (by omega)), e, List.take_length]
      exact ⟨_, rfl, rfl⟩
    · have hj2 : j < (P b).length := by omega
      have h4 := h3 j _ (List.getElem?_eq_getElem hj2)
      have ht : (P b).take (j + 1) = (P b).take j ++ [(P b)[j]] := (List.take_append_getElem hj2).symm
      have hi : (∀ p ∈ (P b).take (j + 1), tb M p = true) ↔ ((∀ p ∈ (P b).take j, tb M p = true) ∧ tb M (P b)[j] = true) := by
        rw [ht]
        constructor
        · intro w
          exact ⟨fun p hp => w p (List.mem_append_left _ hp), w _ (List.mem_append_right _ List.mem_cons_self)⟩
        · rintro ⟨w1, w2⟩ p hp
          rcases List.mem_append.mp hp with q | q
          · exact w1 p q
          · rw [List.mem_singleton.mp q]; exact w2
      rw [mo_F (nI_ge hj2 (by omega)), mo_js, mo_js]
      cases q : pB (∀ p ∈ (P b).take j, tb M p = true) with
      | false =>
        rw [mo_T bI_f, ← nI_succ]
        refine ih _ hj2 ?_
        rw [pB_f (fun w => pB_nof q (hi.mp w).1)]
        rfl
      | true =>
        rw [mo_F (by decide), show (4 : Int32) * nI b + nI j = nI (4 * b + j) from ix_m 4 b j, mo_rIn (by omega) (by decide), h4.1, e_in' _ (by omega), mo_bs]
        cases t : tb M (P b)[j] with
        | false =>
          rw [mo_T bI_f, ← nI_succ]
          refine ih _ hj2 ?_
          rw [pB_f (fun w => by have := (hi.mp w).2; rw [t] at this; cases this)]
          rfl
        | true =>
          rw [mo_F (by decide), ← nI_succ]
          refine ih _ hj2 ?_
          rw [pB_t (hi.mpr ⟨pB_of q, t⟩)]
          rfl
  unfold m_mm_complete
  rw [key, mo_bs, z_bI]
theorem e_hasParentsOf {n b : Nat} {P : Nat → List Nat} {fc fe : Nat → Int32} {M : Int64} (h : BP 4 n P fc fe) (hn : n ≤ 60) (hb : b < n) : m_dg_hasParentsOf M fc fe (nI b) = some (bI (pB (∀ p ∈ P b, tb M p = true))) := by
  have hl : ∀ p ∈ P b, p < 64 := fun p hp => by
    obtain ⟨k, hk⟩ := List.getElem?_of_mem hp
    have := ((h b hb).2.2 k p hk).2
    omega
  unfold m_dg_hasParentsOf
  rw [e_parentSet h hn hb, mo_bs]
  by_cases q : ∀ p ∈ P b, tb M p = true
  · rw [pB_t q, mo_T (no_bits (fun y hy => by
      rw [tb_and, tb_not _ hy]
      cases t : tb (so (P b) 0) y with
      | false => rfl
      | true =>
        have := (tb_so _ _ _ hl).mp t
        rw [tb_0] at this
        rw [q y (this.elim (fun w => by cases w) id)]
        rfl))]
    rfl
  · rw [pB_f q, mo_F (fun w => q (fun p hp => by
      have h5 : tb (so (P b) 0 &&& (M ^^^ (-1))) p = false := by rw [w, tb_0]
      rw [tb_and, tb_not _ (hl p hp), (tb_so _ _ _ hl).mpr (Or.inr hp), Bool.true_and] at h5
      simpa using h5))]
    rfl
theorem e_parentsOverlap {n b N : Nat} {P : Nat → List Nat} {fc fe : Nat → Int32} {cp : Nat → Int64} (h : BP 4 n P fc fe) (hn : n ≤ 60) (hb : b < n) (hN : N ≤ 60) (hp : ∀ p ∈ P b, p < N) : m_dg_parentsOverlap (nI N) fc fe cp (nI b) = some (bI (pB (∃ p ∈ P b, ∃ q ∈ P b, tb (cp p) q = true))) := by
  have hl : ∀ p ∈ P b, p < 64 := fun p hq => by have := hp p hq; omega
  unfold m_dg_parentsOverlap
  rw [e_parentSet h hn hb, mo_bs, e_pastOf hN, mo_bs]
  by_cases q : ∃ p ∈ P b, ∃ q ∈ P b, tb (cp p) q = true
  · obtain ⟨p, hp1, y, hy, ht⟩ := q
    rw [pB_t ⟨p, hp1, y, hy, ht⟩, mo_F (fun w => by
      have h5 : tb (so (P b) 0 &&& orp cp (so (P b) 0) N) y = false := by rw [w, tb_0]
      rw [tb_and, (tb_so _ _ _ hl).mpr (Or.inr hy), (tb_orp y N).mpr ⟨p, hp p hp1, (tb_so _ _ _ hl).mpr (Or.inr hp1), ht⟩] at h5
      cases h5)]
    rfl
  · rw [pB_f q, mo_T (no_bits (fun y hy => by
      rw [tb_and]
      cases t1 : tb (so (P b) 0) y with
      | false => rfl
      | true =>
        cases t2 : tb (orp cp (so (P b) 0) N) y with
        | false => rfl
        | true =>
          exfalso
          obtain ⟨p, _, p2, p3⟩ := (tb_orp y N).mp t2
          have m1 := (tb_so _ _ _ hl).mp t1
          have m2 := (tb_so _ _ _ hl).mp p2
          rw [tb_0] at m1 m2
          exact q ⟨p, m2.elim (fun w => by cases w) id, y, m1.elim (fun w => by cases w) id, p3⟩))]
    rfl
