/-! the blue set: fits (the class) and goes (the reference) -/
noncomputable def pB (p : Prop) : Bool := @decide p (Classical.propDecidable p)
theorem pB_t {p : Prop} (h : p) : pB p = true := @decide_eq_true p (Classical.propDecidable p) h
theorem pB_f {p : Prop} (h : ¬ p) : pB p = false := @decide_eq_false p (Classical.propDecidable p) h
theorem pB_of {p : Prop} (h : pB p = true) : p := @of_decide_eq_true p (Classical.propDecidable p) h
theorem pB_nof {p : Prop} (h : pB p = false) : ¬ p := @of_decide_eq_false p (Classical.propDecidable p) h
theorem pB_iff {p q : Prop} (h : p ↔ q) : pB p = pB q := by
  by_cases hp : p
  · rw [pB_t hp, pB_t (h.mp hp)]
  · rw [pB_f hp, pB_f (fun w => hp (h.mpr w))]
def ap (ps : Nat → Int64) (x y : Nat) : Bool := !decide (x = y) && !tb (ps x) y && !tb (ps y) x
def nap (ps : Nat → Int64) (S : Int64) (x : Nat) : Nat → Nat
  | 0 => 0
  | n + 1 => nap ps S x n + (tb S n && ap ps x n).toNat
noncomputable def goodB (ps : Nat → Int64) (k : Nat) (S : Int64) : Bool := pB (∀ x, x < 60 → tb S x = true → nap ps S x 60 ≤ k)
theorem nap_le (ps : Nat → Int64) (S : Int64) (x n : Nat) : nap ps S x n ≤ n := by
  induction n with
  | zero => exact Nat.le_refl _
  | succ n ih =>
    show nap ps S x n + (tb S n && ap ps x n).toNat ≤ n + 1
    have : (tb S n && ap ps x n).toNat ≤ 1 := Bool.toNat_le _
    omega
theorem ap_sym (ps : Nat → Int64) (x y : Nat) : ap ps x y = ap ps y x := by
  unfold ap
  have e : decide (x = y) = decide (y = x) := by
    by_cases q : x = y
    · rw [q]
    · rw [decide_eq_false q, decide_eq_false (fun w => q w.symm)]
  rw [e]
  cases decide (y = x) <;> cases tb (ps x) y <;> cases tb (ps y) x <;> rfl
theorem ap_self (ps : Nat → Int64) (x : Nat) : ap ps x x = false := by
  unfold ap
  rw [decide_eq_true rfl]
  rfl
theorem nap_congr {ps ps' : Nat → Int64} {S : Int64} {x : Nat} : ∀ {n : Nat}, (∀ y, y < n → tb S y = true → ap ps x y = ap ps' x y) → nap ps S x n = nap ps' S x n := by
  intro n
  induction n with
  | zero => intro _; rfl
  | succ n ih =>
    intro h
    show nap ps S x n + (tb S n && ap ps x n).toNat = nap ps' S x n + (tb S n && ap ps' x n).toNat
    rw [ih (fun y hy => h y (by omega))]
    cases t : tb S n with
    | false => rfl
    | true => rw [h n (by omega) t]
theorem nap_add {ps : Nat → Int64} {S : Int64} {b x : Nat} (hb : b < 64) (hS : tb S b = false) : ∀ {n : Nat}, n ≤ 64 → nap ps (S ||| bi b) x n = nap ps S x n + (if b < n then (ap ps x b).toNat else 0) := by
  intro n
  induction n with
  | zero => intro _; rfl
  | succ n ih =>
    intro hn
    show nap ps (S ||| bi b) x n + (tb (S ||| bi b) n && ap ps x n).toNat = nap ps S x n + (tb S n && ap ps x n).toNat + _
    rw [ih (by omega), tb_or, tb_bi hb]
    by_cases e : n = b
    · subst e
      rw [decide_eq_true rfl, hS, if_neg (by omega), if_pos (by omega)]
      simp
    · rw [decide_eq_false e, Bool.or_false]
      by_cases q : b < n
      · rw [if_pos q, if_pos (by omega)]
        omega
      · rw [if_neg q, if_neg (by omega)]
        omega
theorem e_goesL14 {fp : Nat → Int64} {S : Int64} {x : Nat} (hx : x < 60) : mo_lp (m_mm_goes_L14 fp S (nI x)) 1000 (0, 0) = some (nI (if tb S x = true then nap fp S x 60 else 0)) := by
  cases t : tb S x with
  | false =>
    show m_mm_goes_L14 fp S (nI x) (mo_lp (m_mm_goes_L14 fp S (nI x)) 999) (0, 0) = _
    generalize mo_lp (m_mm_goes_L14 fp S (nI x)) 999 = back
    unfold m_mm_goes_L14
    dsimp only
    rw [mo_F (by decide), e_in' S (by omega), mo_bs, t, mo_T bI_f]
    rfl
  | true =>
    rw [if_pos rfl]
    refine so_eq (lp_ix 60 (fun j z => z = (nI (nap fp S x j), nI j)) (fun o => o = nI (nap fp S x 60)) ?_ 1000 0 (0, 0) (by decide) rfl (by decide))
    intro back j z hj hz ih
    subst hz
    unfold m_mm_goes_L14
    dsimp only
    by_cases e : j = 60
    · subst e
      rw [mo_T (by decide)]
      exact ⟨_, rfl, rfl⟩
    · rw [mo_F (show ¬ (60 : Int32) ≤ nI j from nI_ge (b := 60) (by omega) (by decide)), e_in' S (by omega), mo_bs, t, mo_F (by decide), mo_js, mo_js]
      have no : (tb S j && ap fp x j) = false → ∃ o, mo_jn (fun s93_0 => back (s93_0, nI j + 1)) (fun j93 => mo_br ((0 : Int32) = 0) (j93 (nI (nap fp S x j))) (j93 (nI (nap fp S x j) + 1))) = some o ∧ o = nI (nap fp S x 60) := by
        intro q
        rw [mo_js, mo_T rfl, ← nI_succ]
        refine ih _ (by omega) ?_
        show _ = (nI (nap fp S x j + (tb S j && ap fp x j).toNat), _)
        rw [q]
        rfl
      have yes : (tb S j && ap fp x j) = true → ∃ o, mo_jn (fun s93_0 => back (s93_0, nI j + 1)) (fun j93 => mo_br ((1 : Int32) = 0) (j93 (nI (nap fp S x j))) (j93 (nI (nap fp S x j) + 1))) = some o ∧ o = nI (nap fp S x 60) := by
        intro q
        rw [mo_js, mo_F (by decide), ← nI_succ, ← nI_succ]
        refine ih _ (by omega) ?_
        show _ = (nI (nap fp S x j + (tb S j && ap fp x j).toNat), _)
        rw [q]
        rfl
      by_cases e1 : x = j
      · rw [mo_T (by rw [e1])]
        exact no (by rw [← e1, ap_self, Bool.and_false])
      · rw [mo_F (fun q => e1 ((nI_inj (by omega) (by omega)).mp q)), e_in' S (by omega), mo_bs]
        cases t2 : tb S j with
        | false =>
          rw [mo_T bI_f]
          exact no (by rw [t2]; rfl)
        | true =>
          rw [mo_F (by decide), mo_rLn (by omega) (by decide), e_in' _ (by omega), mo_bs]
          cases t3 : tb (fp x) j with
          | true =>
            rw [mo_F (by decide)]
            exact no (by unfold ap; rw [t3]; simp)
          | false =>
            rw [mo_T bI_f, mo_rLn (by omega) (by decide), e_in' _ (by omega), mo_bs]
            cases t4 : tb (fp j) x with
            | true =>
              rw [mo_F (by decide)]
              exact no (by unfold ap; rw [t4]; simp)
            | false =>
              rw [mo_T bI_f]
              exact yes (by unfold ap; rw [t2, t3, t4, decide_eq_false e1]; rfl)
theorem e_goes {fp : Nat → Int64} {S : Int64} {k : Nat} (hk : k ≤ 60) : m_mm_goes (nI k) fp S = some (bI (goodB fp k S)) := by
  unfold m_mm_goes
  refine so_eq (lp_ix 60 (fun j z => z = nI j ∧ ∀ x, x < j → tb S x = true → nap fp S x 60 ≤ k) (fun o => o = bI (goodB fp k S)) ?_ 1000 0 0 (by decide) ⟨rfl, fun x h => by omega⟩ (by decide))
  intro back j z hj hz ih
  obtain ⟨rfl, hg⟩ := hz
  unfold m_mm_goes_L2
  by_cases e : j = 60
  · subst e
    rw [mo_T (by decide)]
    refine ⟨_, rfl, ?_⟩
    have : goodB fp k S = true := pB_t hg
    rw [this]
    rfl
  · rw [mo_F (show ¬ (60 : Int32) ≤ nI j from nI_ge (b := 60) (by omega) (by decide)), e_goesL14 (by omega), mo_bs]
    have hle : (if tb S j = true then nap fp S j 60 else 0) ≤ 60 := by
      by_cases t : tb S j = true
      · rw [if_pos t]; exact nap_le _ _ _ _
      · rw [if_neg t]; omega
    by_cases q : (if tb S j = true then nap fp S j 60 else 0) ≤ k
    · rw [mo_T (nI_le q (by omega)), ← nI_succ]
      refine ih _ (by omega) ⟨rfl, fun x hx ht => ?_⟩
      by_cases ex : x = j
      · subst ex
        rw [if_pos ht] at q
        exact q
      · exact hg x (by omega) ht
    · rw [mo_F (nI_ge (by omega) (by omega))]
      refine ⟨_, rfl, ?_⟩
      have : goodB fp k S = false := pB_f (fun w => by
        by_cases t : tb S j = true
        · rw [if_pos t] at q
          exact q (w j (by omega) t)
        · rw [if_neg t] at q
          omega)
      rw [this]
      rfl
def ant (M : Int64) (fp ff : Nat → Int64) (x : Nat) : Int64 := ((M &&& (fp x ^^^ (-1))) &&& (ff x ^^^ (-1))) &&& (bi x ^^^ (-1))
theorem e_anticone {M : Int64} {fp ff : Nat → Int64} {x : Nat} (hx : x < 60) : m_dg_anticone M fp ff (nI x) = some (ant M fp ff x) := by
  unfold m_dg_anticone
  rw [mo_rLn (by omega) (by decide), mo_rLn hx (by decide), e_bit, mo_bs]
  rfl
theorem tb_ant {M : Int64} {fp ff : Nat → Int64} {x y : Nat} (hx : x < 60) (hy : y < 64) (hM : tb M y = true) (hf : tb (ff x) y = tb (fp y) x) : tb (ant M fp ff x) y = ap fp x y := by
  unfold ant ap
  rw [tb_and, tb_and, tb_and, tb_not _ hy, tb_not _ hy, tb_not _ hy, tb_bi (by omega), hM, hf]
  have e : decide (y = x) = decide (x = y) := by
    by_cases q : x = y
    · rw [q]
    · rw [decide_eq_false q, decide_eq_false (fun w => q w.symm)]
  rw [e]
  cases decide (x = y) <;> cases tb (fp x) y <;> cases tb (fp y) x <;> rfl
theorem cnt_ant {M S : Int64} {fp ff : Nat → Int64} {x : Nat} (hx : x < 60) (hS : ∀ y, y < 60 → tb S y = true → tb M y = true) (hf : ∀ y, y < 60 → tb M y = true → tb (ff x) y = tb (fp y) x) : ∀ {n : Nat}, n ≤ 60 → cnt (S &&& ant M fp ff x) n = nap fp S x n := by
  intro n
  induction n with
  | zero => intro _; rfl
  | succ n ih =>
    intro hn
    show cnt (S &&& ant M fp ff x) n + (tb (S &&& ant M fp ff x) n).toNat = nap fp S x n + (tb S n && ap fp x n).toNat
    rw [ih (by omega), tb_and]
    cases t : tb S n with
    | false => rfl
    | true => rw [tb_ant hx (by omega) (hS n (by omega) t) (hf n (by omega) (hS n (by omega) t))]
noncomputable def fitB (fp : Nat → Int64) (k : Nat) (S : Int64) (b : Nat) : Bool := pB (nap fp S b 60 ≤ k ∧ ∀ y, y < 60 → tb S y = true → ap fp b y = true → nap fp S y 60 < k)
theorem e_fits {M S : Int64} {fp ff : Nat → Int64} {b k N : Nat} (hk : k ≤ 60) (hN : N ≤ 60) (hM : ∀ y, tb M y = true → y < N) (hb : tb M b = true) (hS : ∀ y, tb S y = true → tb M y = true) (hf : ∀ x y, tb M x = true → tb M y = true → tb (ff x) y = tb (fp y) x) : m_dg_fits (nI k) M fp ff (nI N) (nI b) S = some (bI (fitB fp k S b)) := by
  have hb60 : b < 60 := Nat.lt_of_lt_of_le (hM b hb) hN
  have c64 : ∀ x, x < 60 → cnt (S &&& ant M fp ff x) 64 = cnt (S &&& ant M fp ff x) 60 := fun x hx => cnt_more (by decide) (fun y h1 h2 => by
    rw [tb_and]
    cases t : tb S y with
    | false => rfl
    | true => have := hM y (hS y t); omega)
  have ca : ∀ x, tb M x = true → cnt (S &&& ant M fp ff x) 64 = nap fp S x 60 := fun x hx => by
    have hx60 : x < 60 := Nat.lt_of_lt_of_le (hM x hx) hN
    rw [c64 x hx60]
    exact cnt_ant hx60 (fun y _ h => hS y h) (fun y _ h => hf x y hx h) (Nat.le_refl _)
  unfold m_dg_fits
  rw [e_anticone hb60, mo_bs, e_bitCount, mo_bs, ca b hb]
  have hnb := nap_le fp S b 60
  by_cases q : nap fp S b 60 ≤ k
  · rw [mo_T (nI_le q (by omega))]
    refine so_eq (lp_ix N (fun j z => z = nI j ∧ ∀ y, y < j → tb S y = true → ap fp b y = true → nap fp S y 60 < k) (fun o => o = bI (fitB fp k S b)) ?_ 1000 0 0 (Nat.zero_le _) ⟨rfl, fun x h => by omega⟩ (by omega))
    intro back j z hj hz ih
    obtain ⟨rfl, hg⟩ := hz
    unfold m_dg_fits_L26
    by_cases e : j = N
    · subst e
      rw [mo_T (nI_le (Nat.le_refl _) (by omega))]
      refine ⟨_, rfl, ?_⟩
      have : fitB fp k S b = true := pB_t ⟨q, fun y _ h1 h2 => hg y (hM y (hS y h1)) h1 h2⟩
      rw [this]
      rfl
    · rw [mo_F (nI_ge (by omega) (by omega)), e_holds' _ (by omega), mo_bs, mo_js, tb_and]
      cases t : tb S j with
      | false =>
        rw [Bool.false_and, mo_T bI_f, ← nI_succ]
        refine ih _ (by omega) ⟨rfl, fun y hy h1 h2 => ?_⟩
        have : y ≠ j := fun w => by rw [w, t] at h1; cases h1
        exact hg y (by omega) h1 h2
      | true =>
        rw [tb_ant hb60 (by omega) (hS j t) (hf b j hb (hS j t)), Bool.true_and]
        cases t2 : ap fp b j with
        | false =>
          rw [mo_T bI_f, ← nI_succ]
          refine ih _ (by omega) ⟨rfl, fun y hy h1 h2 => ?_⟩
          have : y ≠ j := fun w => by rw [w, t2] at h2; cases h2
          exact hg y (by omega) h1 h2
        | true =>
          have hnj := nap_le fp S j 60
          rw [mo_F (by decide), e_anticone (by omega), mo_bs, e_bitCount, mo_bs, ca j (hS j t)]
          by_cases q2 : nap fp S j 60 < k
          · rw [mo_T (nI_lt q2 (by omega)), ← nI_succ]
            refine ih _ (by omega) ⟨rfl, fun y hy h1 h2 => ?_⟩
            by_cases w : y = j
            · rw [w]; exact q2
            · exact hg y (by omega) h1 h2
          · rw [mo_F (nI_nlt (by omega) (by omega))]
            refine ⟨_, rfl, ?_⟩
            have : fitB fp k S b = false := pB_f (fun w => q2 (w.2 j (by omega) t t2))
            rw [this]
            rfl
  · rw [mo_F (nI_ge (by omega) (by omega))]
    have : fitB fp k S b = false := pB_f (fun w => q w.1)
    rw [this]
    rfl
theorem fit_good {fp : Nat → Int64} {k b : Nat} {S : Int64} (hb : b < 60) (hS : tb S b = false) (hg : goodB fp k S = true) : fitB fp k S b = goodB fp k (S ||| bi b) := by
  have hg := pB_of hg
  have e : (nap fp S b 60 ≤ k ∧ ∀ y, y < 60 → tb S y = true → ap fp b y = true → nap fp S y 60 < k) ↔ (∀ x, x < 60 → tb (S ||| bi b) x = true → nap fp (S ||| bi b) x 60 ≤ k) := by
    constructor
    · rintro ⟨h1, h2⟩ x hx ht
      rw [nap_add (by omega) hS (by decide), if_pos hb]
      rw [tb_or, tb_bi (by omega), Bool.or_eq_true, decide_eq_true_iff] at ht
      by_cases ex : x = b
      · subst ex
        rw [ap_self]
        exact h1
      · have ht : tb S x = true := ht.elim id (fun w => absurd w ex)
        cases q : ap fp x b with
        | false => exact hg x hx ht
        | true =>
          have := h2 x hx ht (by rw [ap_sym]; exact q)
          show nap fp S x 60 + 1 ≤ k
          omega
    · intro h
      refine ⟨?_, fun y hy ht q => ?_⟩
      · have := h b hb (by rw [tb_or, tb_bi (by omega), decide_eq_true rfl, Bool.or_true])
        rw [nap_add (by omega) hS (by decide), if_pos hb, ap_self] at this
        exact this
      · have := h y hy (by rw [tb_or, ht, Bool.true_or])
        rw [nap_add (by omega) hS (by decide), if_pos hb, ap_sym, q] at this
        have : nap fp S y 60 + 1 ≤ k := this
        omega
  unfold fitB goodB
  exact pB_iff e
