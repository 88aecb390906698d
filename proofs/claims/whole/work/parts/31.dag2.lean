/-! counting -/
theorem cnt_congr {x y : Int64} : ∀ {n : Nat}, (∀ b, b < n → tb x b = tb y b) → cnt x n = cnt y n := by
  intro n
  induction n with
  | zero => intro _; rfl
  | succ n ih =>
    intro h
    show cnt x n + (tb x n).toNat = cnt y n + (tb y n).toNat
    rw [ih (fun b hb => h b (by omega)), h n (by omega)]
theorem cnt_del {x y : Int64} {b : Nat} (hx : tb x b = true) (hy : ∀ c, c < 64 → tb y c = (tb x c && !decide (c = b))) : ∀ {n : Nat}, n ≤ 64 → b < n → cnt y n + 1 = cnt x n := by
  intro n
  induction n with
  | zero => intro _ h; omega
  | succ n ih =>
    intro hn hb
    show cnt y n + (tb y n).toNat + 1 = cnt x n + (tb x n).toNat
    by_cases e : b = n
    · subst e
      have e1 : cnt y b = cnt x b := cnt_congr (fun c hc => by
        rw [hy c (by omega), decide_eq_false (by omega)]
        simp)
      rw [e1, hy b (by omega), hx, decide_eq_true rfl]
      rfl
    · have := ih (by omega) (by omega)
      rw [hy n (by omega), decide_eq_false (by omega)]
      simp only [Bool.not_false, Bool.and_true]
      omega
theorem cnt_pos {x : Int64} {b : Nat} (hx : tb x b = true) : ∀ {n : Nat}, b < n → 0 < cnt x n := by
  intro n
  induction n with
  | zero => intro h; omega
  | succ n ih =>
    intro hb
    show 0 < cnt x n + (tb x n).toNat
    by_cases e : b = n
    · subst e
      rw [hx]
      exact Nat.succ_pos _
    · have := ih (by omega)
      omega
theorem cnt_zero {n : Nat} : cnt 0 n = 0 := by
  induction n with
  | zero => rfl
  | succ n ih =>
    show cnt 0 n + (tb 0 n).toNat = 0
    rw [ih, tb_0]
    rfl
theorem cnt_more {x : Int64} {m : Nat} : ∀ {n : Nat}, m ≤ n → (∀ b, m ≤ b → b < n → tb x b = false) → cnt x n = cnt x m := by
  intro n
  induction n with
  | zero =>
    intro h _
    have : m = 0 := by omega
    rw [this]
  | succ n ih =>
    intro h hx
    by_cases e : m = n + 1
    · rw [e]
    · show cnt x n + (tb x n).toNat = _
      rw [hx n (by omega) (by omega), ih (by omega) (fun b h1 h2 => hx b h1 (by omega))]
      rfl
/-! rows that hold a list -/
def hL (f : Nat → Int32) (l : List Nat) : Prop := ∀ k b, l[k]? = some b → f k = nI b
theorem hL_nil (f : Nat → Int32) : hL f [] := fun k b h => by cases h
theorem hL_snoc {f : Nat → Int32} {l : List Nat} (h : hL f l) (b : Nat) : hL (upd f l.length (nI b)) (l ++ [b]) := by
  intro k c hk
  rw [List.getElem?_append] at hk
  by_cases e : k < l.length
  · rw [if_pos e] at hk
    rw [pk_un (by omega)]
    exact h k c hk
  · rw [if_neg e] at hk
    have e2 : k - l.length = 0 := by
      have := (List.getElem?_eq_some_iff.mp hk).1
      simp at this
      omega
    rw [e2] at hk
    have e3 : k = l.length := by omega
    subst e3
    rw [pk_us]
    cases hk
    rfl
/-- the sorted list of a set -/
def SL (sc : Nat → Nat) (h : Nat → Int32) (x : Int64) (l : List Nat) : Prop := l.Pairwise (bef sc h) ∧ ∀ b, b ∈ l ↔ tb x b = true
theorem SL_eq {sc : Nat → Nat} {h : Nat → Int32} {x : Int64} {l l' : List Nat} (h1 : SL sc h x l) (h2 : SL sc h x l') : l = l' := srt_eq bef_as l l' h1.1 h2.1 (fun b => (h1.2 b).trans (h2.2 b).symm)
def bfb (sc : Nat → Nat) (h : Nat → Int32) (a b : Nat) : Bool := decide (bef sc h a b)
theorem best_min {sc : Nat → Nat} {h : Nat → Int32} {x : Int64} : ∀ {n s : Nat}, best (bfb sc h) x n = some s → ∀ b, b < n → tb x b = true → b ≠ s → bef sc h s b := by
  intro n
  induction n with
  | zero => intro s hb; cases hb
  | succ n ih =>
    intro s hb b hbn hx hne
    cases t : tb x n with
    | false =>
      rw [best_f t] at hb
      have e : b ≠ n := fun q => by rw [q, t] at hx; cases hx
      exact ih hb b (by omega) hx hne
    | true =>
      cases hq : best (bfb sc h) x n with
      | none =>
        rw [best_0 t hq] at hb
        cases hb
        have := best_no hq b (by omega)
        rw [this] at hx
        cases hx
      | some r =>
        cases q : bfb sc h n r with
        | false =>
          rw [best_2 t hq q] at hb
          cases hb
          by_cases e : b = n
          · subst e
            rcases bef_to (sc := sc) (hs := h) hne with z | z
            · have : bfb sc h b s = true := decide_eq_true z
              rw [q] at this
              cases this
            · exact z
          · exact ih hq b (by omega) hx hne
        | true =>
          rw [best_1 t hq q] at hb
          cases hb
          have z : bef sc h n r := of_decide_eq_true q
          by_cases e : b = r
          · rw [e]; exact z
          · exact bef_tr z (ih hq b (by omega) hx e)
theorem e_mergeL51 {fs h : Nat → Int32} {sc : Nat → Nat} {x : Int64} (hs : ∀ b, b < 60 → tb x b = true → fs b = nI (sc b) ∧ sc b ≤ 64) : mo_lp (m_mm_merge_L51 fs h x) 1000 (-1, 0) = some (oI (best (bfb sc h) x 60)) := so_eq (lp_ix 60 (fun j z => z = (oI (best (bfb sc h) x j), nI j)) (fun o => o = oI (best (bfb sc h) x 60)) (by
    intro back j z hj hz ih
    subst hz
    unfold m_mm_merge_L51
    dsimp only
    by_cases e : j = 60
    · subst e
      rw [mo_T (by decide)]
      exact ⟨_, rfl, rfl⟩
    · rw [mo_F (show ¬ (60 : Int32) ≤ nI j from nI_ge (b := 60) (by omega) (by decide)), e_in' x (by omega), mo_bs, mo_js, mo_js, mo_js]
      have no : best (bfb sc h) x (j + 1) = best (bfb sc h) x j → ∃ o, mo_jn (fun s136_0 => back (s136_0, nI j + 1)) (fun j136 => mo_br ((0 : Int32) = 0) (j136 (oI (best (bfb sc h) x j))) (j136 (nI j))) = some o ∧ o = oI (best (bfb sc h) x 60) := by
        intro q
        rw [mo_js, mo_T rfl, ← nI_succ]
        exact ih _ (by omega) (by rw [q])
      have yes : best (bfb sc h) x (j + 1) = some j → ∃ o, mo_jn (fun s136_0 => back (s136_0, nI j + 1)) (fun j136 => mo_br ((1 : Int32) = 0) (j136 (oI (best (bfb sc h) x j))) (j136 (nI j))) = some o ∧ o = oI (best (bfb sc h) x 60) := by
        intro q
        rw [mo_js, mo_F (by decide), ← nI_succ]
        exact ih _ (by omega) (by rw [q]; rfl)
      cases t : tb x j with
      | false =>
        rw [mo_T bI_f]
        exact no (best_f t)
      | true =>
        rw [mo_F (by decide)]
        cases hb : best (bfb sc h) x j with
        | none =>
          rw [mo_T (show oI none < 0 by decide)]
          rw [hb] at yes
          exact yes (best_0 t hb)
        | some r =>
          rw [hb, show oI (some r) = nI r from rfl] at yes no
          obtain ⟨r1, r2⟩ := best_in hb
          obtain ⟨a1, a2⟩ := hs j (by omega) t
          obtain ⟨b1, b2⟩ := hs r (by omega) r2
          rw [show oI (some r) = nI r from rfl, mo_F (nI_pos (by omega)), mo_rIn (by omega) (by decide), mo_rIn (by omega) (by decide), a1, b1]
          by_cases q1 : sc j < sc r
          · rw [mo_T (nI_lt q1 (by omega))]
            exact yes (best_1 t hb (decide_eq_true (Or.inl q1)))
          · rw [mo_F (nI_nlt (by omega) (by omega)), mo_rIn (by omega) (by decide), mo_rIn (by omega) (by decide), a1, b1]
            by_cases q2 : sc j = sc r
            · rw [mo_T ((nI_inj (by omega) (by omega)).mpr q2)]
              rw [e_earlier h (by omega) (by omega), mo_bs]
              cases q3 : decide (ear h j r) with
              | false =>
                rw [mo_T bI_f]
                refine no (best_2 t hb (decide_eq_false (fun z => ?_)))
                have := of_decide_eq_false q3
                rcases z with z | z
                · omega
                · exact this z.2
              | true =>
                rw [mo_F (by decide)]
                exact yes (best_1 t hb (decide_eq_true (Or.inr ⟨q2, of_decide_eq_true q3⟩)))
            · rw [mo_F (fun z => q2 ((nI_inj (by omega) (by omega)).mp z))]
              refine no (best_2 t hb (decide_eq_false (fun z => ?_)))
              rcases z with z | z
              · omega
              · exact q2 z.1) 1000 0 (-1, 0) (by decide) rfl (by decide))
theorem e_workL9 {fp : Nat → Int64} {fs h : Nat → Int32} {sc : Nat → Nat} {x : Int64} (hs : ∀ b, b < 60 → tb x b = true → fs b = nI (sc b) ∧ sc b ≤ 64) : mo_lp (m_mm_work_L9 fp fs h x) 1000 (-1, x, 0) = some (oI (best (hvb sc h) x 60), x ||| orp fp x 60) := so_eq (lp_ix 60 (fun j z => z = (oI (best (hvb sc h) x j), x ||| orp fp x j, nI j)) (fun o => o = (oI (best (hvb sc h) x 60), x ||| orp fp x 60)) (by
    intro back j z hj hz ih
    subst hz
    unfold m_mm_work_L9
    dsimp only
    by_cases e : j = 60
    · subst e
      rw [mo_T (by decide)]
      exact ⟨_, rfl, rfl⟩
    · rw [mo_F (show ¬ (60 : Int32) ≤ nI j from nI_ge (b := 60) (by omega) (by decide)), e_in' x (by omega), mo_bs, mo_js]
      cases t : tb x j with
      | false =>
        rw [mo_T bI_f, ← nI_succ]
        exact ih _ (by omega) (by rw [best_f t, orp_f t])
      | true =>
        rw [mo_F (by decide), mo_rLn (by omega) (by decide), mo_js]
        have eo : (x ||| orp fp x j) ||| fp j = x ||| orp fp x (j + 1) := by rw [orp_t t, Int64.or_assoc]
        rw [eo, ← nI_succ]
        have no : best (hvb sc h) x (j + 1) = best (hvb sc h) x j → ∃ o, back (oI (best (hvb sc h) x j), x ||| orp fp x (j + 1), nI (j + 1)) = some o ∧ o = (oI (best (hvb sc h) x 60), x ||| orp fp x 60) := fun q => ih _ (by omega) (by rw [q])
        have yes : best (hvb sc h) x (j + 1) = some j → ∃ o, back (nI j, x ||| orp fp x (j + 1), nI (j + 1)) = some o ∧ o = (oI (best (hvb sc h) x 60), x ||| orp fp x 60) := fun q => ih _ (by omega) (by rw [q]; rfl)
        cases hb : best (hvb sc h) x j with
        | none =>
          rw [mo_T (show oI none < 0 by decide)]
          exact yes (best_0 t hb)
        | some r =>
          rw [hb, show oI (some r) = nI r from rfl] at no
          obtain ⟨r1, r2⟩ := best_in hb
          obtain ⟨a1, a2⟩ := hs j (by omega) t
          obtain ⟨b1, b2⟩ := hs r (by omega) r2
          rw [show oI (some r) = nI r from rfl, mo_F (nI_pos (by omega)), mo_rIn (by omega) (by decide), mo_rIn (by omega) (by decide), a1, b1]
          by_cases q1 : sc r < sc j
          · rw [mo_T (nI_lt q1 (by omega))]
            exact yes (best_1 t hb (decide_eq_true (Or.inl q1)))
          · rw [mo_F (nI_nlt (by omega) (by omega)), mo_rIn (by omega) (by decide), mo_rIn (by omega) (by decide), a1, b1]
            by_cases q2 : sc j = sc r
            · rw [mo_T ((nI_inj (by omega) (by omega)).mpr q2)]
              rw [e_earlier h (by omega) (by omega), mo_bs]
              cases q3 : decide (ear h j r) with
              | false =>
                rw [mo_T bI_f]
                refine no (best_2 t hb (decide_eq_false (fun z => ?_)))
                have := of_decide_eq_false q3
                rcases z with z | z
                · omega
                · exact this z.2
              | true =>
                rw [mo_F (by decide)]
                exact yes (best_1 t hb (decide_eq_true (Or.inr ⟨q2, of_decide_eq_true q3⟩)))
            · rw [mo_F (fun z => q2 ((nI_inj (by omega) (by omega)).mp z))]
              refine no (best_2 t hb (decide_eq_false (fun z => ?_)))
              rcases z with z | z
              · omega
              · exact q2 z.1) 1000 0 (-1, x, 0) (by decide) (by show _ = (-1, x ||| 0, 0); rw [Int64.or_zero]) (by decide))
