/-! the class's DAG: the small functions -/
def bI (b : Bool) : Int32 := if b then 1 else 0
theorem bI_t : bI true = 1 := rfl
theorem bI_f : bI false = 0 := rfl
theorem z_bI {α : Type} (b : Bool) (k : Option α) : mo_bz (bI b) k = k := by cases b <;> rfl
theorem e_holds' (x : Int64) {n : Nat} (hn : n < 64) : m_bm_holds x (nI n) = some (bI (tb x n)) := by
  rw [e_holds x hn]
  cases tb x n <;> rfl
theorem e_in' (x : Int64) {n : Nat} (hn : n < 64) : m_mm_in x (nI n) = some (bI (tb x n)) := by
  rw [e_in x hn]
  cases tb x n <;> rfl
theorem i32_eq {a b : Int32} : a = b ↔ a.toInt = b.toInt := ⟨fun h => by rw [h], fun h => Int32.toInt_inj.mp h⟩
theorem e_isEarlier (h : Nat → Int32) {a b : Nat} (ha : a < 60) (hb : b < 60) : m_bl_isEarlier h (nI a) (nI b) = some (bI (decide (ear h a b))) := by
  unfold m_bl_isEarlier
  rw [mo_rIn ha (by decide), mo_rIn hb (by decide)]
  by_cases e : h a = h b
  · rw [mo_T e]
    have e1 : (h a).toInt = (h b).toInt := by rw [e]
    by_cases q : a < b
    · rw [mo_F (nI_ge q (by omega))]
      have : decide (ear h a b) = true := decide_eq_true (Or.inr ⟨e1, q⟩)
      rw [this]
      rfl
    · rw [mo_T (nI_le (by omega) (by omega))]
      have : decide (ear h a b) = false := decide_eq_false (by unfold ear; omega)
      rw [this]
      rfl
  · rw [mo_F e, mo_rIn ha (by decide), mo_rIn hb (by decide)]
    have e1 : ¬ (h a).toInt = (h b).toInt := fun q => e (i32_eq.mpr q)
    by_cases q : h b ≤ h a
    · rw [mo_T q]
      have q1 := Int32.le_iff_toInt_le.mp q
      have : decide (ear h a b) = false := decide_eq_false (by unfold ear; omega)
      rw [this]
      rfl
    · rw [mo_F q]
      have q1 : ¬ (h b).toInt ≤ (h a).toInt := fun z => q (Int32.le_iff_toInt_le.mpr z)
      have : decide (ear h a b) = true := decide_eq_true (Or.inl (by omega))
      rw [this]
      rfl
theorem e_earlier (h : Nat → Int32) {a b : Nat} (ha : a < 62) (hb : b < 62) : m_mm_earlier h (nI a) (nI b) = some (bI (decide (ear h a b))) := by
  unfold m_mm_earlier
  rw [mo_rIn ha (by decide), mo_rIn hb (by decide), mo_js]
  by_cases q : h a < h b
  · rw [mo_T q]
    have q1 := Int32.lt_iff_toInt_lt.mp q
    have : decide (ear h a b) = true := decide_eq_true (Or.inl q1)
    rw [this]
    rfl
  · have q1 : ¬ (h a).toInt < (h b).toInt := fun z => q (Int32.lt_iff_toInt_lt.mpr z)
    rw [mo_F q, mo_rIn ha (by decide), mo_rIn hb (by decide)]
    by_cases e : h a = h b
    · rw [mo_T e]
      have e1 : (h a).toInt = (h b).toInt := by rw [e]
      by_cases r : a < b
      · rw [mo_F (nI_ge r (by omega))]
        have : decide (ear h a b) = true := decide_eq_true (Or.inr ⟨e1, r⟩)
        rw [this]
        rfl
      · rw [mo_T (nI_le (by omega) (by omega))]
        have : decide (ear h a b) = false := decide_eq_false (by unfold ear; omega)
        rw [this]
        rfl
    · rw [mo_F e]
      have e1 : ¬ (h a).toInt = (h b).toInt := fun z => e (i32_eq.mpr z)
      have : decide (ear h a b) = false := decide_eq_false (by unfold ear; omega)
      rw [this]
      rfl
theorem e_isHeavier {fs h : Nat → Int32} {sc : Nat → Nat} {a b : Nat} (ha : a < 60) (hb : b < 60) (sa : fs a = nI (sc a)) (sb : fs b = nI (sc b)) (la : sc a ≤ 64) (lb : sc b ≤ 64) : m_dg_isHeavier fs h (nI a) (nI b) = some (bI (decide (hev sc h a b))) := by
  unfold m_dg_isHeavier
  rw [mo_rIn (by omega) (by decide), mo_rIn (by omega) (by decide), sa, sb]
  by_cases e : sc a = sc b
  · rw [mo_T ((nI_inj (by omega) (by omega)).mpr e), e_isEarlier h ha hb, mo_bs, z_bI]
    have : decide (hev sc h a b) = decide (ear h a b) := by
      by_cases q : ear h a b
      · rw [decide_eq_true q, decide_eq_true (Or.inr ⟨e, q⟩)]
      · rw [decide_eq_false q, decide_eq_false (fun z => z.elim (fun z => by omega) (fun z => q z.2))]
    rw [this]
  · rw [mo_F (fun z => e ((nI_inj (by omega) (by omega)).mp z)), mo_rIn (by omega) (by decide), mo_rIn (by omega) (by decide), sa, sb]
    by_cases q : sc a ≤ sc b
    · rw [mo_T (nI_le q (by omega)), decide_eq_false (by unfold hev; omega)]
      rfl
    · rw [mo_F (nI_ge (by omega) (by omega)), decide_eq_true (Or.inl (by omega))]
      rfl
theorem e_isBefore {fs h : Nat → Int32} {sc : Nat → Nat} {a b : Nat} (ha : a < 60) (hb : b < 60) (sa : fs a = nI (sc a)) (sb : fs b = nI (sc b)) (la : sc a ≤ 64) (lb : sc b ≤ 64) : m_dg_isBefore fs h (nI a) (nI b) = some (bI (decide (bef sc h a b))) := by
  unfold m_dg_isBefore
  rw [mo_rIn (by omega) (by decide), mo_rIn (by omega) (by decide), sa, sb]
  by_cases e : sc a = sc b
  · rw [mo_T ((nI_inj (by omega) (by omega)).mpr e), e_isEarlier h ha hb, mo_bs, z_bI]
    have : decide (bef sc h a b) = decide (ear h a b) := by
      by_cases q : ear h a b
      · rw [decide_eq_true q, decide_eq_true (Or.inr ⟨e, q⟩)]
      · rw [decide_eq_false q, decide_eq_false (fun z => z.elim (fun z => by omega) (fun z => q z.2))]
    rw [this]
  · rw [mo_F (fun z => e ((nI_inj (by omega) (by omega)).mp z)), mo_rIn (by omega) (by decide), mo_rIn (by omega) (by decide), sa, sb]
    by_cases q : sc b ≤ sc a
    · rw [mo_T (nI_le q (by omega)), decide_eq_false (by unfold bef; omega)]
      rfl
    · rw [mo_F (nI_ge (by omega) (by omega)), decide_eq_true (Or.inl (by omega))]
      rfl
/-- the best of a set of the first n -/
def best (lt : Nat → Nat → Bool) (x : Int64) : Nat → Option Nat
  | 0 => none
  | n + 1 => if tb x n = true then (match best lt x n with
    | none => some n
    | some s => if lt n s = true then some n else some s) else best lt x n
def oI : Option Nat → Int32
  | none => -1
  | some n => nI n
theorem best_f {lt : Nat → Nat → Bool} {x : Int64} {n : Nat} (t : tb x n = false) : best lt x (n + 1) = best lt x n := if_neg (by rw [t]; decide)
theorem best_t {lt : Nat → Nat → Bool} {x : Int64} {n : Nat} (t : tb x n = true) : best lt x (n + 1) = (match best lt x n with
    | none => some n
    | some s => if lt n s = true then some n else some s) := if_pos t
theorem best_0 {lt : Nat → Nat → Bool} {x : Int64} {n : Nat} (t : tb x n = true) (h : best lt x n = none) : best lt x (n + 1) = some n := by rw [best_t t, h]
theorem best_1 {lt : Nat → Nat → Bool} {x : Int64} {n r : Nat} (t : tb x n = true) (h : best lt x n = some r) (q : lt n r = true) : best lt x (n + 1) = some n := by
  rw [best_t t, h]
  exact if_pos q
theorem best_2 {lt : Nat → Nat → Bool} {x : Int64} {n r : Nat} (t : tb x n = true) (h : best lt x n = some r) (q : lt n r = false) : best lt x (n + 1) = some r := by
  rw [best_t t, h]
  exact if_neg (by rw [q]; decide)
theorem best_in {lt : Nat → Nat → Bool} {x : Int64} : ∀ {n s : Nat}, best lt x n = some s → s < n ∧ tb x s = true := by
  intro n
  induction n with
  | zero => intro s h; cases h
  | succ n ih =>
    intro s h
    unfold best at h
    by_cases t : tb x n = true
    · rw [if_pos t] at h
      cases hb : best lt x n with
      | none =>
        rw [hb] at h
        cases h
        exact ⟨by omega, t⟩
      | some r =>
        rw [hb] at h
        dsimp only at h
        by_cases q : lt n r = true
        · rw [if_pos q] at h
          cases h
          exact ⟨by omega, t⟩
        · rw [if_neg q] at h
          cases h
          obtain ⟨h1, h2⟩ := ih hb
          exact ⟨by omega, h2⟩
    · rw [if_neg t] at h
      obtain ⟨h1, h2⟩ := ih h
      exact ⟨by omega, h2⟩
theorem best_no {lt : Nat → Nat → Bool} {x : Int64} : ∀ {n : Nat}, best lt x n = none → ∀ b, b < n → tb x b = false := by
  intro n
  induction n with
  | zero => intro _ b h; omega
  | succ n ih =>
    intro h b hb
    unfold best at h
    by_cases t : tb x n = true
    · rw [if_pos t] at h
      cases hq : best lt x n with
      | none => rw [hq] at h; cases h
      | some r =>
        rw [hq] at h
        dsimp only at h
        by_cases q : lt n r = true
        · rw [if_pos q] at h; cases h
        · rw [if_neg q] at h; cases h
    · rw [if_neg t] at h
      by_cases e : b = n
      · subst e
        rw [Bool.not_eq_true] at t
        exact t
      · exact ih h b (by omega)
theorem best_ext {lt : Nat → Nat → Bool} {x : Int64} {m : Nat} : ∀ {n : Nat}, m ≤ n → (∀ b, m ≤ b → b < n → tb x b = false) → best lt x n = best lt x m := by
  intro n
  induction n with
  | zero =>
    intro h _
    have : m = 0 := by omega
    rw [this]
  | succ n ih =>
    intro h hx
    by_cases e : m = n + 1
    · rw [e]
    · have t : ¬ tb x n = true := by rw [hx n (by omega) (by omega)]; decide
      show (if tb x n = true then _ else _) = _
      rw [if_neg t]
      exact ih (by omega) (fun b h1 h2 => hx b h1 (by omega))
def hvb (sc : Nat → Nat) (h : Nat → Int32) (a b : Nat) : Bool := decide (hev sc h a b)
theorem e_heaviest {fs h : Nat → Int32} {sc : Nat → Nat} {x : Int64} {N : Nat} (hN : N ≤ 60) (hs : ∀ b, b < N → tb x b = true → fs b = nI (sc b) ∧ sc b ≤ 64) : m_dg_heaviest (nI N) fs h x = some (oI (best (hvb sc h) x N)) := by
  have h1 : mo_lp (m_dg_heaviest_L5 (nI N) fs h x) 1000 (-1, 0) = some (oI (best (hvb sc h) x N)) := so_eq (lp_ix N (fun j z => z = (oI (best (hvb sc h) x j), nI j)) (fun o => o = oI (best (hvb sc h) x N)) (by
    intro back j z hj hz ih
    subst hz
    unfold m_dg_heaviest_L5
    dsimp only
    by_cases e : j = N
    · subst e
      rw [mo_T (nI_le (Nat.le_refl _) (by omega))]
      exact ⟨_, rfl, rfl⟩
    · rw [mo_F (nI_ge (by omega) (by omega)), e_holds' x (by omega), mo_bs, mo_js, mo_js]
      cases t : tb x j with
      | false =>
        rw [mo_T bI_f, ← nI_succ]
        exact ih _ (by omega) (by rw [best_f t])
      | true =>
        rw [mo_F (by decide)]
        cases hb : best (hvb sc h) x j with
        | none =>
          rw [mo_T (show oI none = -1 from rfl), ← nI_succ]
          exact ih _ (by omega) (by rw [best_0 t hb]; rfl)
        | some r =>
          obtain ⟨r1, r2⟩ := best_in hb
          obtain ⟨a1, a2⟩ := hs j (by omega) t
          obtain ⟨b1, b2⟩ := hs r (by omega) r2
          have hh := e_isHeavier (h := h) (a := j) (b := r) (by omega) (by omega) a1 b1 a2 b2
          show ∃ o, mo_br (nI r = -1) _ _ = some o ∧ _
          rw [mo_F (nI_nm1 (by omega))]
          show ∃ o, mo_bd (m_dg_isHeavier fs h (nI j) (nI r)) _ = some o ∧ _
          rw [hh, mo_bs]
          cases q : decide (hev sc h j r) with
          | false =>
            rw [mo_T bI_f, ← nI_succ]
            exact ih _ (by omega) (by rw [best_2 t hb q])
          | true =>
            rw [mo_F (by decide), ← nI_succ]
            exact ih _ (by omega) (by rw [best_1 t hb q]; rfl)) 1000 0 (-1, 0) (Nat.zero_le _) rfl (by omega))
  unfold m_dg_heaviest
  rw [h1, mo_bs]
/-- the pasts of a set of the first n, together -/
def orp (ps : Nat → Int64) (x : Int64) : Nat → Int64
  | 0 => 0
  | n + 1 => if tb x n = true then orp ps x n ||| ps n else orp ps x n
theorem orp_t {ps : Nat → Int64} {x : Int64} {n : Nat} (t : tb x n = true) : orp ps x (n + 1) = orp ps x n ||| ps n := if_pos t
theorem orp_f {ps : Nat → Int64} {x : Int64} {n : Nat} (t : tb x n = false) : orp ps x (n + 1) = orp ps x n := if_neg (by rw [t]; decide)
theorem tb_orp {ps : Nat → Int64} {x : Int64} (b : Nat) : ∀ n, tb (orp ps x n) b = true ↔ ∃ p, p < n ∧ tb x p = true ∧ tb (ps p) b = true := by
  intro n
  induction n with
  | zero =>
    constructor
    · intro h
      rw [show orp ps x 0 = 0 from rfl, tb_0] at h
      cases h
    · rintro ⟨p, h, -⟩
      omega
  | succ n ih =>
    cases t : tb x n with
    | false =>
      rw [orp_f t, ih]
      constructor
      · rintro ⟨p, h1, h2⟩
        exact ⟨p, by omega, h2⟩
      · rintro ⟨p, h1, h2, h3⟩
        by_cases e : p = n
        · subst e
          rw [t] at h2
          cases h2
        · exact ⟨p, by omega, h2, h3⟩
    | true =>
      rw [orp_t t, tb_or, Bool.or_eq_true, ih]
      constructor
      · rintro (⟨p, h1, h2⟩ | h)
        · exact ⟨p, by omega, h2⟩
        · exact ⟨n, by omega, t, h⟩
      · rintro ⟨p, h1, h2, h3⟩
        by_cases e : p = n
        · subst e
          exact Or.inr h3
        · exact Or.inl ⟨p, by omega, h2, h3⟩
theorem orp_ext {ps : Nat → Int64} {x : Int64} {m n : Nat} (h : m ≤ n) (hx : ∀ b, m ≤ b → b < n → tb x b = false) : orp ps x n = orp ps x m := by
  induction n with
  | zero =>
    have : m = 0 := by omega
    rw [this]
  | succ n ih =>
    by_cases e : m = n + 1
    · rw [e]
    · rw [orp_f (hx n (by omega) (by omega))]
      exact ih (by omega) (fun b h1 h2 => hx b h1 (by omega))
theorem e_pastOf {fp : Nat → Int64} {x : Int64} {N : Nat} (hN : N ≤ 60) : m_dg_pastOf (nI N) fp x = some (orp fp x N) := by
  have h1 : mo_lp (m_dg_pastOf_L5 (nI N) fp x) 1000 (0, 0) = some (orp fp x N) := so_eq (lp_ix N (fun j z => z = (orp fp x j, nI j)) (fun o => o = orp fp x N) (by
    intro back j z hj hz ih
    subst hz
    unfold m_dg_pastOf_L5
    dsimp only
    by_cases e : j = N
    · subst e
      rw [mo_T (nI_le (Nat.le_refl _) (by omega))]
      exact ⟨_, rfl, rfl⟩
    · rw [mo_F (nI_ge (by omega) (by omega)), e_holds' x (by omega), mo_bs, mo_js]
      cases t : tb x j with
      | false =>
        rw [mo_T bI_f, ← nI_succ]
        exact ih _ (by omega) (by rw [orp_f t])
      | true =>
        rw [mo_F (by decide), mo_rLn (by omega) (by decide), ← nI_succ]
        exact ih _ (by omega) (by rw [orp_t t])) 1000 0 (0, 0) (Nat.zero_le _) rfl (by omega))
  unfold m_dg_pastOf
  rw [h1, mo_bs]
/-- what a row merges: its past without the past of the chosen parent and without it -/
def mgd (ps : Nat → Int64) (r s : Nat) : Int64 := (ps r &&& (ps s ^^^ (-1))) &&& (bi s ^^^ (-1))
theorem e_mergedBy {fsel : Nat → Int32} {fp : Nat → Int64} {r s : Nat} (hr : r < 61) (hs : s < 61) (h : fsel r = nI s) : m_dg_mergedBy fsel fp (nI r) = some (mgd fp r s) := by
  unfold m_dg_mergedBy
  rw [mo_rIn hr (by decide), h, mo_F (nI_nm1 (by omega)), mo_rLn hr (by decide), mo_rLn hs (by decide), e_bit, mo_bs]
  rfl
theorem tb_mgd {ps : Nat → Int64} {r s b : Nat} (hs : s < 64) (hb : b < 64) : tb (mgd ps r s) b = (tb (ps r) b && !tb (ps s) b && !decide (b = s)) := by
  unfold mgd
  rw [tb_and, tb_and, tb_not _ hb, tb_not _ hb, tb_bi hs]
