/-! template: the heaviest tips, the first of the pool -/
theorem flt_all {ins : Nat → List (Nat × Nat × Int32)} {outs : Nat → List (Int32 × Nat)} {ol bl : Nat → Int32} : ∀ (l : List Nat) (u u' : Nat → Option Nat) (a a' : Int64) (F F' : Nat), (∀ t ∈ l, t < 64) → flt ins outs ol bl l (u, a, F) = (l, u', a', F') → l.Nodup ∧ (∀ t ∈ l, tb a t = false) ∧ ∀ t, tb a' t = true ↔ (tb a t = true ∨ t ∈ l) := by
  intro l
  induction l with
  | nil =>
    intro u u' a a' F F' _ h
    have h2 : (u, a, F) = (u', a', F') := congrArg Prod.snd h
    cases h2
    exact ⟨List.nodup_nil, fun t ht => (by cases ht), fun t => ⟨Or.inl, fun w => w.elim id (fun w => by cases w)⟩⟩
  | cons t l ih =>
    intro u u' a a' F F' hl h
    have ht := hl t List.mem_cons_self
    have hr : ∀ s ∈ l, s < 64 := fun s hs => hl s (List.mem_cons_of_mem _ hs)
    by_cases q : okT u a ol bl (ins t) (outs t) t
    · rw [flt_t (z := (u, a, F)) q, run1_t q] at h
      have h1 : (flt ins outs ol bl l (aft t (ins t) (outs t) u, a ||| bi t, F + (sumI u (ins t) - sumO (outs t)))).1 = l := (List.cons.inj (congrArg Prod.fst h)).2
      have h2 : (flt ins outs ol bl l (aft t (ins t) (outs t) u, a ||| bi t, F + (sumI u (ins t) - sumO (outs t)))).2 = (u', a', F') := congrArg Prod.snd h
      obtain ⟨r1, r2, r3⟩ := ih _ _ _ _ _ _ hr (Prod.ext h1 h2)
      refine ⟨List.nodup_cons.mpr ⟨fun w => ?_, r1⟩, fun s hs => ?_, fun s => ?_⟩
      · have := r2 t w
        rw [tb_or, tb_bi ht, decide_eq_true rfl, Bool.or_true] at this
        cases this
      · rcases List.mem_cons.mp hs with w | w
        · rw [w]; exact q.1
        · have := r2 s w
          rw [tb_or, Bool.or_eq_false_iff] at this
          exact this.1
      · rw [r3 s, tb_or, tb_bi ht, Bool.or_eq_true, decide_eq_true_iff, List.mem_cons, or_assoc]
    · rw [flt_f (z := (u, a, F)) q] at h
      have h1 := (flt_sub (ins := ins) (outs := outs) (ol := ol) (bl := bl) l (u, a, F)).2
      rw [h, List.length_cons] at h1
      omega
theorem e_tplL47 {fs h : Nat → Int32} {sc : Nat → Nat} {x : Int64} (hs : ∀ b, b < 60 → tb x b = true → fs b = nI (sc b) ∧ sc b ≤ 64) : mo_lp (m_mm_template_L47 fs h x) 1000 (-1, 0) = some (oI (best (hvb sc h) x 60)) := so_eq (lp_ix 60 (fun j z => z = (oI (best (hvb sc h) x j), nI j)) (fun o => o = oI (best (hvb sc h) x 60)) (by
    intro back j z hj hz ih
    subst hz
    unfold m_mm_template_L47
    dsimp only
    by_cases e : j = 60
    · subst e
      rw [mo_T (by decide)]
      exact ⟨_, rfl, rfl⟩
    · rw [mo_F (show ¬ (60 : Int32) ≤ nI j from nI_ge (b := 60) (by omega) (by decide)), e_in' x (by omega), mo_bs, mo_js, mo_js, mo_js]
      have no : best (hvb sc h) x (j + 1) = best (hvb sc h) x j → ∃ o, mo_jn (fun s136_0 => back (s136_0, nI j + 1)) (fun j136 => mo_br ((0 : Int32) = 0) (j136 (oI (best (hvb sc h) x j))) (j136 (nI j))) = some o ∧ o = oI (best (hvb sc h) x 60) := by
        intro q
        rw [mo_js, mo_T rfl, ← nI_succ]
        exact ih _ (by omega) (by rw [q])
      have yes : best (hvb sc h) x (j + 1) = some j → ∃ o, mo_jn (fun s136_0 => back (s136_0, nI j + 1)) (fun j136 => mo_br ((1 : Int32) = 0) (j136 (oI (best (hvb sc h) x j))) (j136 (nI j))) = some o ∧ o = oI (best (hvb sc h) x 60) := by
        intro q
        rw [mo_js, mo_F (by decide), ← nI_succ]
        exact ih _ (by omega) (by rw [q]; rfl)
      cases t : tb x j with
      | false =>
        rw [mo_T bI_f]
        exact no (best_f t)
      | true =>
        rw [mo_F (by decide)]
        cases hb : best (hvb sc h) x j with
        | none =>
          rw [mo_T (show oI none < 0 by decide)]
          rw [hb] at yes
          exact yes (best_0 t hb)
        | some r =>
          rw [hb, show oI (some r) = nI r from rfl] at yes no
          obtain ⟨r1, r2⟩ := best_in hb
          obtain ⟨a1, a2⟩ := hs j (by omega) t
          obtain ⟨b1, b2⟩ := hs r (by omega) r2
          rw [show oI (some r) = nI r from rfl, mo_F (nI_pos (by omega)), mo_rIn (by omega) (by decide), mo_rIn (by omega) (by decide), a1, b1]
          by_cases q1 : sc r < sc j
          · rw [mo_T (nI_lt q1 (by omega))]
            exact yes (best_1 t hb (decide_eq_true (Or.inl q1)))
          · rw [mo_F (nI_nlt (by omega) (by omega)), mo_rIn (by omega) (by decide), mo_rIn (by omega) (by decide), a1, b1]
            by_cases q2 : sc j = sc r
            · rw [mo_T ((nI_inj (by omega) (by omega)).mpr q2)]
              rw [e_earlier h (by omega) (by omega), mo_bs]
              cases q3 : decide (ear h j r) with
              | false =>
                rw [mo_T bI_f]
                refine no (best_2 t hb (decide_eq_false (fun z => ?_)))
                have := of_decide_eq_false q3
                rcases z with z | z
                · omega
                · exact this z.2
              | true =>
                rw [mo_F (by decide)]
                exact yes (best_1 t hb (decide_eq_true (Or.inr ⟨q2, of_decide_eq_true q3⟩)))
            · rw [mo_F (fun z => q2 ((nI_inj (by omega) (by omega)).mp z))]
              refine no (best_2 t hb (decide_eq_false (fun z => ?_)))
              rcases z with z | z
              · omega
              · exact q2 z.1) 1000 0 (-1, 0) (by decide) rfl (by decide))
def tpl (lt : Nat → Nat → Bool) : Nat → Int64 → List Nat
  | 0, _ => []
  | f + 1, x => match best lt x 60 with
    | none => []
    | some s => s :: tpl lt f (x &&& (bi s ^^^ (-1)))
theorem best_zero {lt : Nat → Nat → Bool} {x : Int64} (hx : ∀ y, tb x y = true → y < 60) : x = 0 ↔ best lt x 60 = none := by
  constructor
  · intro e
    subst e
    cases q : best lt 0 60 with
    | none => rfl
    | some s => have := (best_in q).2; rw [tb_0] at this; cases this
  · intro e
    refine no_bits (fun b hb => ?_)
    cases t : tb x b with
    | false => rfl
    | true => rw [best_no e b (hx b t)] at t; cases t
theorem e_tplL30 {N : Nat} {sc : Nat → Nat} {cs h : Nat → Int32} {M : Int64} (hN : N ≤ 60) (hM : ∀ y, tb M y = true → y < N ∧ cs y = nI (sc y) ∧ sc y ≤ 64) : ∀ (f : Nat) (A : List Nat) (x : Int64) (held : Nat → Int32) (g : Nat), A.length + f = 4 → (∀ y, tb x y = true → tb M y = true) → (∀ a ∈ A, tb x a = false ∧ tb M a = true) → hL held A → f < g → ∃ held' : Nat → Int32, mo_lp (m_bm_template_L30 (nI N) cs h) g (x, nI A.length, nI A.length, held) = some (nI (A ++ tpl (hvb sc h) f x).length, held') ∧ hL held' (A ++ tpl (hvb sc h) f x) ∧ ∀ a ∈ A ++ tpl (hvb sc h) f x, tb M a = true := by
  intro f
  induction f with
  | zero =>
    intro A x held g hA hx hd hl hg
    obtain ⟨g, rfl⟩ : ∃ a, g = a + 1 := ⟨g - 1, by omega⟩
    have ea : A ++ tpl (hvb sc h) 0 x = A := List.append_nil A
    rw [ea]
    refine ⟨held, ?_, hl, fun a ha => (hd a ha).2⟩
    show m_bm_template_L30 (nI N) cs h (mo_lp (m_bm_template_L30 (nI N) cs h) g) _ = _
    unfold m_bm_template_L30
    dsimp only
    rw [mo_T (show (4 : Int32) ≤ nI A.length from nI_le (a := 4) (by omega) (by omega))]
  | succ f ih =>
    intro A x held g hA hx hd hl hg
    obtain ⟨g, rfl⟩ : ∃ a, g = a + 1 := ⟨g - 1, by omega⟩
    have hx60 : ∀ y, tb x y = true → y < 60 := fun y hy => by have := (hM y (hx y hy)).1; omega
    have eh := e_heaviest (fs := cs) (h := h) (sc := sc) (x := x) hN (fun b hb t => (hM b (hx b t)).2)
    have eb : best (hvb sc h) x 60 = best (hvb sc h) x N := best_ext hN (fun b h1 h2 => by
      cases t : tb x b with
      | false => rfl
      | true => have := (hM b (hx b t)).1; omega)
    rw [← eb] at eh
    cases hb : best (hvb sc h) x 60 with
    | none =>
      have et : tpl (hvb sc h) (f + 1) x = [] := by unfold tpl; rw [hb]
      rw [et, List.append_nil]
      refine ⟨held, ?_, hl, fun a ha => (hd a ha).2⟩
      show m_bm_template_L30 (nI N) cs h (mo_lp (m_bm_template_L30 (nI N) cs h) g) _ = _
      unfold m_bm_template_L30
      dsimp only
      rw [mo_F (lt4 (by omega)), mo_T ((best_zero hx60).mpr hb)]
    | some s =>
      obtain ⟨s1, s2⟩ := best_in hb
      have sM := hx s s2
      have et : tpl (hvb sc h) (f + 1) x = s :: tpl (hvb sc h) f (x &&& (bi s ^^^ (-1))) := by
        show (match best (hvb sc h) x 60 with
          | none => []
          | some s => s :: tpl (hvb sc h) f (x &&& (bi s ^^^ (-1)))) = _
        rw [hb]
      have sA : s ∉ A := fun w => by rw [(hd s w).1] at s2; cases s2
      obtain ⟨A1, A2⟩ := e_addNew (n := 4) (x := s) hl (by omega) (by decide) (fun y hy => by have := (hM y (hd y hy).2).1; omega) (by omega)
      have tbx : ∀ y, tb (x &&& (bi s ^^^ (-1))) y = true → tb x y = true := fun y hy => by
        rw [tb_and, Bool.and_eq_true] at hy
        exact hy.1
      obtain ⟨held', I1, I2, I3⟩ := ih (A ++ [s]) (x &&& (bi s ^^^ (-1))) (upd held A.length (nI s)) g (by rw [List.length_append]; simp; omega) (fun y hy => hx y (tbx y hy)) (fun a ha => by
        rcases List.mem_append.mp ha with w | w
        · refine ⟨?_, (hd a w).2⟩
          rw [tb_and, (hd a w).1]
          rfl
        · rw [List.mem_singleton.mp w]
          refine ⟨?_, sM⟩
          rw [tb_and, tb_not _ (by omega), tb_bi (by omega), decide_eq_true rfl]
          exact Bool.and_false _) (hL_snoc hl s) (by omega)
      rw [List.append_assoc, show [s] ++ tpl (hvb sc h) f (x &&& (bi s ^^^ (-1))) = tpl (hvb sc h) (f + 1) x from et.symm] at I1 I2 I3
      refine ⟨held', ?_, I2, I3⟩
      show m_bm_template_L30 (nI N) cs h (mo_lp (m_bm_template_L30 (nI N) cs h) g) _ = _
      generalize mo_lp (m_bm_template_L30 (nI N) cs h) g = back at I1 ⊢
      unfold m_bm_template_L30
      dsimp only
      rw [mo_F (lt4 (by omega)), mo_F (fun w => by rw [(best_zero hx60).mp w] at hb; cases hb), eh, hb, mo_bs, show oI (some s) = nI s from rfl, A2 ⟨by omega, sA⟩, mo_bs]
      dsimp only
      rw [e_bit, mo_bs, ← nI_succ]
      rw [show (A ++ [s]).length = A.length + 1 by simp] at I1 ⊢
      exact I1
theorem e_tplL24 {sc : Nat → Nat} {ms mh h : Nat → Int32} {M : Int64} (hM : ∀ y, tb M y = true → y < 60 ∧ ms y = nI (sc y) ∧ sc y ≤ 64 ∧ mh y = h y) : ∀ (f : Nat) (A : List Nat) (x : Int64) (mpc mpar : Nat → Int32) (g : Nat), A.length + f = 4 → (∀ y, tb x y = true → tb M y = true) → mpc 61 = nI A.length → (∀ j y, A[j]? = some y → mpar (244 + j) = nI y) → f < g → ∃ mpc' mpar' : Nat → Int32, mo_lp (m_mm_template_L24 ms mh) g (x, mpc, mpar) = some (mpc', mpar') ∧ mpc' 61 = nI (A ++ tpl (hvb sc h) f x).length ∧ (∀ j y, (A ++ tpl (hvb sc h) f x)[j]? = some y → mpar' (244 + j) = nI y) ∧ (∀ j, j ≠ 61 → mpc' j = mpc j) ∧ ∀ j, j < 244 → mpar' j = mpar j := by
  have r61 : ∀ {γ : Type} {f : Nat → Int32} {kk : Int32 → Option γ}, mo_rI f 62 61 kk = kk (f 61) := fun {γ f kk} => mo_rIn (j := 61) (by decide) (by decide)
  have w61 : ∀ {γ : Type} {f : Nat → Int32} {v : Int32} {kk : (Nat → Int32) → Option γ}, mo_wI f 62 61 v kk = kk (upd f 61 v) := fun {γ f v kk} => mo_wIn (j := 61) (by decide) (by decide)
  intro f
  induction f with
  | zero =>
    intro A x mpc mpar g hA hx h1 h2 hg
    obtain ⟨g, rfl⟩ : ∃ a, g = a + 1 := ⟨g - 1, by omega⟩
    have ea : A ++ tpl (hvb sc h) 0 x = A := List.append_nil A
    rw [ea]
    refine ⟨mpc, mpar, ?_, h1, h2, fun _ _ => rfl, fun _ _ => rfl⟩
    show m_mm_template_L24 ms mh (mo_lp (m_mm_template_L24 ms mh) g) _ = _
    unfold m_mm_template_L24
    dsimp only
    by_cases c : x = 0
    · rw [mo_T c]
    · rw [mo_F c, r61, h1, mo_T (show (4 : Int32) ≤ nI A.length from nI_le (a := 4) (by omega) (by omega))]
  | succ f ih =>
    intro A x mpc mpar g hA hx h1 h2 hg
    obtain ⟨g, rfl⟩ : ∃ a, g = a + 1 := ⟨g - 1, by omega⟩
    have hx60 : ∀ y, tb x y = true → y < 60 := fun y hy => (hM y (hx y hy)).1
    have eh := e_tplL47 (fs := ms) (h := mh) (sc := sc) (x := x) (fun b hb t => ⟨(hM b (hx b t)).2.1, (hM b (hx b t)).2.2.1⟩)
    have ec : best (hvb sc mh) x 60 = best (hvb sc h) x 60 := best_congr (fun a b ha hb => hev_h (hM a (hx a ha)).2.2.2 (hM b (hx b hb)).2.2.2) 60
    rw [ec] at eh
    cases hb : best (hvb sc h) x 60 with
    | none =>
      have et : tpl (hvb sc h) (f + 1) x = [] := by unfold tpl; rw [hb]
      rw [et, List.append_nil]
      refine ⟨mpc, mpar, ?_, h1, h2, fun _ _ => rfl, fun _ _ => rfl⟩
      show m_mm_template_L24 ms mh (mo_lp (m_mm_template_L24 ms mh) g) _ = _
      unfold m_mm_template_L24
      dsimp only
      rw [mo_T ((best_zero hx60).mpr hb)]
    | some s =>
      obtain ⟨s1, s2⟩ := best_in hb
      have et : tpl (hvb sc h) (f + 1) x = s :: tpl (hvb sc h) f (x &&& (bi s ^^^ (-1))) := by
        show (match best (hvb sc h) x 60 with
          | none => []
          | some s => s :: tpl (hvb sc h) f (x &&& (bi s ^^^ (-1)))) = _
        rw [hb]
      have tbx : ∀ y, tb (x &&& (bi s ^^^ (-1))) y = true → tb x y = true := fun y hy => by
        rw [tb_and, Bool.and_eq_true] at hy
        exact hy.1
      obtain ⟨mpc', mpar', I1, I2, I3, I4, I5⟩ := ih (A ++ [s]) (x &&& (bi s ^^^ (-1))) (upd mpc 61 (nI (A.length + 1))) (upd mpar (244 + A.length) (nI s)) g (by rw [List.length_append]; simp; omega) (fun y hy => hx y (tbx y hy)) (by rw [pk_us, List.length_append]; rfl) (snocP h2 (fun j hj => pk_un hj) pk_us) (by omega)
      rw [List.append_assoc, show [s] ++ tpl (hvb sc h) f (x &&& (bi s ^^^ (-1))) = tpl (hvb sc h) (f + 1) x from et.symm] at I2 I3
      refine ⟨mpc', mpar', ?_, I2, I3, fun j hj => by rw [I4 j hj, pk_un hj], fun j hj => by rw [I5 j hj, pk_un (by omega)]⟩
      show m_mm_template_L24 ms mh (mo_lp (m_mm_template_L24 ms mh) g) _ = _
      generalize mo_lp (m_mm_template_L24 ms mh) g = back at I1 ⊢
      unfold m_mm_template_L24
      dsimp only
      rw [mo_F (fun w => by rw [(best_zero hx60).mp w] at hb; cases hb), r61, h1, mo_F (lt4 (by omega)), eh, hb, mo_bs, show oI (some s) = nI s from rfl, r61, h1, show (244 : Int32) + nI A.length = nI (244 + A.length) from nI_add 244 A.length, mo_wIn (by omega) (by decide), r61, w61, h1, ← nI_succ]
      exact I1
theorem e_tplL86 {p : List Nat} {ph tih : Nat → Int32} (h1 : hL ph p) (h2 : p.length ≤ 8) (h3 : p.Nodup) (h4 : ∀ t ∈ p, t < 1000) : ∃ tih' : Nat → Int32, mo_lp (m_bm_template_L86 (nI p.length) ph) 1000 (0, 0, tih) = some (nI (p.take 3).length, tih') ∧ hL tih' (p.take 3) := by
  obtain ⟨o, e1, tih', rfl, e2⟩ := lp_ix (step := m_bm_template_L86 (nI p.length) ph) (p.take 3).length (fun j z => ∃ g : Nat → Int32, z = (nI j, nI j, g) ∧ hL g (p.take j)) (fun o => ∃ g : Nat → Int32, o = (nI (p.take 3).length, g) ∧ hL g (p.take 3)) (by
    intro back j z hj hz ih
    obtain ⟨g, rfl, a1⟩ := hz
    have hl3 : (p.take 3).length = min 3 p.length := List.length_take
    unfold m_bm_template_L86
    dsimp only
    by_cases e : j = (p.take 3).length
    · have et : p.take j = p.take 3 := by
        rw [e, hl3]
        by_cases c : 3 ≤ p.length
        · rw [Nat.min_eq_left c]
        · rw [Nat.min_eq_right (by omega), List.take_of_length_le (Nat.le_refl _), List.take_of_length_le (by omega)]
      rw [et] at a1
      by_cases c : 3 ≤ j
      · rw [mo_T (show (3 : Int32) ≤ nI j from nI_le (a := 3) c (by omega)), e]
        exact ⟨_, rfl, g, rfl, a1⟩
      · rw [mo_F (show ¬ (3 : Int32) ≤ nI j from nI_ge (b := 3) (by omega) (by decide)), mo_T (nI_le (by omega) (by omega)), e]
        exact ⟨_, rfl, g, rfl, a1⟩
    · have hj2 : j < p.length := by omega
      have hj3 : j < 3 := by omega
      have hlj : (p.take j).length = j := by rw [List.length_take]; omega
      have hno : p[j] ∉ p.take j := by
        intro w
        obtain ⟨i, hi, he⟩ := List.mem_iff_getElem.mp w
        rw [List.getElem_take] at he
        have hi2 : i < j := by rw [hlj] at hi; exact hi
        exact (List.pairwise_iff_getElem.mp h3) i j (by omega) hj2 hi2 he
      obtain ⟨A1, A2⟩ := e_addNew (n := 3) (x := p[j]) a1 (by omega) (by decide) (fun y hy => h4 y (List.mem_of_mem_take hy)) (h4 _ (List.getElem_mem hj2))
      have A2 := A2 ⟨by omega, hno⟩
      rw [List.take_append_getElem hj2, hlj, show (p.take (j + 1)).length = j + 1 by rw [List.length_take]; omega] at A2
      rw [mo_F (show ¬ (3 : Int32) ≤ nI j from nI_ge (b := 3) (by omega) (by decide)), mo_F (nI_ge hj2 (by omega)), e_nuAt h1 h2 (by decide) hj2, mo_bs, A2, mo_bs]
      dsimp only
      rw [← nI_succ]
      refine ih _ (by omega) ⟨_, rfl, ?_⟩
      have := hL_snoc a1 p[j]
      rw [hlj, List.take_append_getElem hj2] at this
      exact this) 1000 0 (0, 0, tih) (Nat.zero_le _) ⟨tih, rfl, by rw [List.take_zero]; exact hL_nil _⟩ (by have : (p.take 3).length = min 3 p.length := List.length_take; omega)
  exact ⟨tih', e1, e2⟩
theorem e_tplL209 {p : List Nat} {mpool held g : Nat → Int32} (h1 : hL mpool p) (h2 : p.length ≤ 8) (hg : g 61 = nI (p.take 3).length) : ∃ held' : Nat → Int32, mo_lp (m_mm_template_L209 mpool g) 1000 (0, held) = some held' ∧ (∀ j t, (p.take 3)[j]? = some t → held' (183 + j) = nI t) ∧ ∀ j, j < 183 → held' j = held j := by
  have hl3 : (p.take 3).length = min 3 p.length := List.length_take
  have r61 : ∀ {γ : Type} {f : Nat → Int32} {kk : Int32 → Option γ}, mo_rI f 62 61 kk = kk (f 61) := fun {γ f kk} => mo_rIn (j := 61) (by decide) (by decide)
  obtain ⟨o, e1, e2, e3⟩ := lp_ix (step := m_mm_template_L209 mpool g) (p.take 3).length (fun j z => ∃ q : Nat → Int32, z = (nI j, q) ∧ (∀ i t, i < j → (p.take 3)[i]? = some t → q (183 + i) = nI t) ∧ ∀ i, i < 183 → q i = held i) (fun q => (∀ i t, (p.take 3)[i]? = some t → q (183 + i) = nI t) ∧ ∀ i, i < 183 → q i = held i) (by
    intro back j z hj hz ih
    obtain ⟨q, rfl, a1, a2⟩ := hz
    unfold m_mm_template_L209
    dsimp only
    rw [r61, hg]
    by_cases e : j = (p.take 3).length
    · rw [mo_T (nI_le (by omega) (by omega))]
      exact ⟨_, rfl, fun i t hi => a1 i t (by have := (List.getElem?_eq_some_iff.mp hi).1; omega) hi, a2⟩
    · have hj2 : j < p.length := by omega
      rw [mo_F (nI_ge (by omega) (by omega)), mo_rIn (by omega) (by decide), show (183 : Int32) + nI j = nI (183 + j) from nI_add 183 j, mo_wIn (by omega) (by decide), h1 j _ (List.getElem?_eq_getElem hj2), ← nI_succ]
      refine ih _ (by omega) ⟨_, rfl, fun i t hi ht => ?_, fun i hi => ?_⟩
      · by_cases ei : i = j
        · subst ei
          rw [List.getElem?_take, if_pos (by omega), List.getElem?_eq_getElem hj2] at ht
          rw [pk_us, Option.some.inj ht]
        · rw [pk_un (by omega)]; exact a1 i t (by omega) ht
      · rw [pk_un (by omega)]; exact a2 i hi) 1000 0 (0, held) (Nat.zero_le _) ⟨held, rfl, fun i t hi => by omega, fun _ _ => rfl⟩ (by omega)
  exact ⟨o, e1, e2, e3⟩
theorem op_template {nT nB k : Nat} {ins : Nat → List (Nat × Nat × Int32)} {outs : Nat → List (Int32 × Nat)} {P I : Nat → List Nat} {sc : Nat → Nat} {p L : List Nat} {dI : List (Nat × Nat × Int32)} {dO : List (Int32 × Nat)} {pp pi O : List Nat} {M tips lacc aacc : Int64} {ids ic islot ifp iout isec ilock oc olock oamt fpc fpar fic fi bl h pph pih : Nat → Int32} {cp cf cb : Nat → Int64} {cs csel sq fo lam aam ph inp src idx sec outp lock amt mid mpc mpar hol held mbl mh : Nat → Int32} {mp mb : Nat → Int64} {ms msel mo mpool ord macc free coin worth : Nat → Int32} {ts1 ts2 : Int32} {tph tih fso mm : Nat → Int32} (x1 x2 : Int32) (hR : RG nT nB k ins outs P I sc p L dI dO pp pi O M tips lacc aacc ids ic islot ifp iout isec ilock oc olock oamt fpc fpar fic fi bl h pph pih cp cf cb cs csel sq fo lam aam ph inp src idx sec outp lock amt mid mpc mpar hol held mbl mh mp mb ms msel mo mpool ord macc free coin worth) : ∃ (o ts1' ts2' : Int32) (tph' tih' : Nat → Int32) (nB' : Nat) (P' : Nat → List Nat) (I' : Nat → List Nat) (fpar' : Nat → Int32) (h' : Nat → Int32) (fi' : Nat → Int32) (fpc' : Nat → Int32) (fic' : Nat → Int32) (bl' : Nat → Int32) (mpc' : Nat → Int32) (hol' : Nat → Int32) (mpar' : Nat → Int32) (held' : Nat → Int32) (mbl' : Nat → Int32) (mh' : Nat → Int32), m_bm_template (nI nB) ts1 ts2 tips cs h tph (nI p.length) ph tih fpar fi ids fpc fic bl x1 x2 = some (o, nI nB', ts1', ts2', h', tph', tih', fpar', fi', fpc', fic', bl') ∧ m_mm_template (nI nB) M (nI p.length) mpc mpar ms mh hol mpool held mbl mid x1 x2 = some (o, nI nB', mpc', mpar', mh', hol', held', mbl') ∧ RG nT nB' k ins outs P' I' sc p L dI dO pp pi O M tips lacc aacc ids ic islot ifp iout isec ilock oc olock oamt fpc' fpar' fic' fi' bl' h' pph pih cp cf cb cs csel sq fo lam aam ph inp src idx sec outp lock amt mid mpc' mpar' hol' held' mbl' mh' mp mb ms msel mo mpool ord macc free coin worth := by
  have hR0 := hR
  obtain ⟨⟨hX, hY, hV, hS⟩, hPS, hD, hPL, hO, hF⟩ := hR
  obtain ⟨hB4, hBm, hI, hIm, hIt, hlk, hh⟩ := hS
  obtain ⟨p1, p2, p3, p4, p5, p6, p7, p8, p9, p10⟩ := hPL
  obtain ⟨hDR, hVR, hF6, u, u2, F2, r1, r2, r3, r4, r5, r6, r7, r8, r9, r10, r11⟩ := hF
  have hT := hV.1
  have hB := hV.2.1
  obtain ⟨⟨d1, d2, d3, d4, d5, d6, d7⟩, ha, e1, e2, e3, e4, e5, e6, e7, e8, e9, e10⟩ := hDR
  have w61 : ∀ {γ : Type} {f : Nat → Int32} {v : Int32} {kk : (Nat → Int32) → Option γ}, mo_wI f 62 61 v kk = kk (upd f 61 v) := fun {γ f v kk} => mo_wIn (j := 61) (by decide) (by decide)
  by_cases c : nB = 60
  · refine ⟨-1, ts1, ts2, tph, tih, nB, P, I, fpar, h, fi, fpc, fic, bl, mpc, hol, mpar, held, mbl, mh, ?_, ?_, hR0⟩
    · unfold m_bm_template m_bl_isFull
      rw [mo_T (show nI nB = (60 : Int32) by rw [c]; rfl), mo_bs, mo_F (by decide)]
    · unfold m_mm_template
      rw [mo_T (show nI nB = (60 : Int32) by rw [c]; rfl)]
  · have c2 : nB < 60 := by omega
    obtain ⟨t1, t2, t3⟩ := dr_tips hR0.2.2.2.2.2.1
    obtain ⟨T, E0, E0'⟩ := e_tips (M := M) hBm hB d3
    have eT : T = tips := tb_iff (fun y => (E0' y).trans (e4 y).symm)
    subst eT
    obtain ⟨nd, -, -⟩ := flt_all p u u2 lacc aacc 0 F2 (fun t ht => by have := r11 t ht; omega) r5
    obtain ⟨tph', A1, A2, A3⟩ := e_tplL30 (N := nB) (sc := sc) (cs := cs) (h := h) (M := M) hB (fun y hy => ⟨d3 y hy, d4 y hy⟩) 4 [] T tph 1000 rfl t1 (fun a ha => by cases ha) (hL_nil _) (by decide)
    obtain ⟨mpc1, mpar1, B1, B2, B3, B4, B5⟩ := e_tplL24 (sc := sc) (ms := ms) (mh := mh) (h := h) (M := M) (fun y hy => ⟨by have := d3 y hy; omega, by rw [(ha y hy).1]; exact (d4 y hy).1, (d4 y hy).2, hh y (d3 y hy)⟩) 4 [] T (upd mpc 61 0) mpar 1000 rfl t1 pk_us (fun j y hj => by cases hj) (by decide)
    obtain ⟨tih', C1, C2⟩ := e_tplL86 (tih := tih) r8 r10 nd (fun t ht => by have := r11 t ht; omega)
    obtain ⟨held1, D1, D2, D3⟩ := e_tplL209 (held := held) (g := upd hol 61 (nI (p.take 3).length)) r9 r10 pk_us
    rw [List.nil_append] at A1 A2 A3 B2 B3
    have hl3 : (p.take 3).length = min 3 p.length := List.length_take
    have pi4 : ∀ q ∈ p.take 3, q < nT := fun q hq => r11 q (List.mem_of_mem_take hq)
    have pp2 : ∀ q ∈ tpl (hvb sc h) 4 T, q < nB := fun q hq => d3 q (A3 q hq)
    have pp1 : ∀ f x, (tpl (hvb sc h) f x).length ≤ f := by
      intro f
      induction f with
      | zero => intro x; exact Nat.le_refl _
      | succ f ih =>
        intro x
        show (match best (hvb sc h) x 60 with
          | none => ([] : List Nat)
          | some s => s :: tpl (hvb sc h) f (x &&& (bi s ^^^ (-1)))).length ≤ f + 1
        cases best (hvb sc h) x 60 with
        | none => exact Nat.zero_le _
        | some s => exact Nat.succ_le_succ (ih _)
    have ppn : tpl (hvb sc h) 4 T ≠ [] := by
      show (match best (hvb sc h) T 60 with
        | none => ([] : List Nat)
        | some s => s :: tpl (hvb sc h) 3 (T &&& (bi s ^^^ (-1)))) ≠ []
      cases q : best (hvb sc h) T 60 with
      | none =>
        obtain ⟨y, hy⟩ := t2
        have := best_no q y (by have := d3 y (t1 y hy); omega)
        rw [this] at hy; cases hy
      | some s => exact List.cons_ne_nil _ _
    obtain ⟨fpar', fi', E1, E2, E3, E4, E5⟩ := e_cbuild (h := h) (ids := ids) (fpar := fpar) (fi := fi) (fpc := fpc) (fic := fic) (bl := bl) (lk := mx 7 x1) (n := x2) c2 hT (pp1 4 T) pp2 A2 (by omega) pi4 C2
    obtain ⟨mpar', held', G1, G2, G3, G4, G5, G6, G7⟩ := e_mbuild (F := 61) (mbl := mbl) (h := h) (ids := ids) (mpc := mpc1) (mpar := mpar1) (hol := upd hol 61 (nI (p.take 3).length)) (held := held1) x1 x2 c2 hT (by decide) (by decide) (pp1 4 T) pp2 B2 B3 (by omega) pi4 pk_us D2 hh hD.1
    obtain ⟨Q1, Q2, Q3, Q4, Q5⟩ := grown (pp0 := tpl (hvb sc h) 4 T) (pi0 := p.take 3) (hv := hvP h ids (tpl (hvb sc h) 4 T) (p.take 3) (mx 7 x1) x2) (lk := mx 7 x1) (fpc' := upd fpc nB (nI (tpl (hvb sc h) 4 T).length)) (fpar' := fpar') (fic' := upd fic nB (nI (p.take 3).length)) (fi' := fi') (mpc' := upd mpc1 nB (nI (tpl (hvb sc h) 4 T).length)) (mpar' := mpar') (hol' := upd (upd hol 61 (nI (p.take 3).length)) nB (nI (p.take 3).length)) (held' := held') hR0 c2 (pp1 4 T) pp2 ppn (by omega) pi4 (fun b hb => pk_un (by omega)) E2 pk_us E3 (fun b hb => pk_un (by omega)) E4 pk_us E5 (fun b hb => by rw [pk_un (by omega), B4 b (by omega), pk_un (by omega)]) (fun j hj => by rw [G2 j hj, B5 j (by omega)]) pk_us G3 (fun b hb => by rw [pk_un (by omega), pk_un (by omega)]) (fun j hj => by rw [G5 j hj, D3 j (by omega)]) pk_us G6
    refine ⟨nI nB, nI (tpl (hvb sc h) 4 T).length, nI (p.take 3).length, tph', tih', nB + 1, _, _, fpar', _, fi', _, _, _, _, _, mpar', held', _, _, ?_, ?_, Q1, Q2, Q3, ⟨p1, p2, fun x hx => by have := p3 x hx; omega, p4, p5, p6, ?_, fun j x hj => ?_, ?_, fun j x hj => ?_⟩, Q4, Q5⟩
    · unfold m_bm_template m_bl_isFull m_bp_forget
      rw [mo_F (show ¬ nI nB = (60 : Int32) from N_eq (b := 60) (by omega) (by omega) (by decide)), mo_bs, mo_T rfl, mo_bs]
      dsimp only
      have A1 : mo_lp (m_bm_template_L30 (nI nB) cs h) 1000 (T, 0, 0, tph) = some (nI (tpl (hvb sc h) 4 T).length, tph') := A1
      rw [A1, mo_bs]
      dsimp only
      rw [C1, mo_bs]
      dsimp only
      rw [e_lockFor, mo_bs, E1, mo_bs]
    · unfold m_mm_template
      rw [mo_F (show ¬ nI nB = (60 : Int32) from N_eq (b := 60) (by omega) (by omega) (by decide)), E0, mo_bs, w61, B1, mo_bs]
      dsimp only
      have fin : (fun (s205_0 : Int32) => mo_wI hol 62 61 s205_0 fun g205 => mo_bd (mo_lp (m_mm_template_L209 mpool g205) 1000 (0, held)) fun y209_f_held => mo_bd (m_mm_build (nI nB) mpc1 g205 mpar1 y209_f_held mbl mh mid 61 x1 x2) fun (r250, r250_0, r250_1, r250_2, r250_3, r250_4, r250_5, r250_6) => some (r250, r250_0, r250_1, r250_3, r250_6, r250_2, r250_4, r250_5)) (nI (p.take 3).length) = some (nI nB, nI (nB + 1), upd mpc1 nB (nI (tpl (hvb sc h) 4 T).length), mpar', upd mh nB (hvP h ids (tpl (hvb sc h) 4 T) (p.take 3) (mx 7 x1) x2), upd (upd hol 61 (nI (p.take 3).length)) nB (nI (p.take 3).length), held', upd mbl nB (mx 7 x1)) := by
        dsimp only
        have G1 : m_mm_build (nI nB) mpc1 (upd hol 61 (nI (p.take 3).length)) mpar1 held1 mbl mh mid 61 x1 x2 = _ := G1
        rw [w61, D1, mo_bs, G1, mo_bs]
      rw [mo_js]
      by_cases c3 : 3 ≤ p.length
      · rw [mo_T (show (3 : Int32) ≤ nI p.length from nI_le (a := 3) c3 (by omega))]
        rw [show (p.take 3).length = 3 by omega] at fin ⊢
        exact fin
      · rw [mo_F (show ¬ (3 : Int32) ≤ nI p.length from nI_ge (b := 3) (by omega) (by decide))]
        rw [show (p.take 3).length = p.length by omega] at fin ⊢
        exact fin
    · rw [pk_un (by omega), B4 60 (by decide), pk_un (by decide)]; exact p7
    · have := (List.getElem?_eq_some_iff.mp hj).1
      rw [G4 _ (by omega), B5 _ (by omega)]
      exact p8 j x hj
    · rw [pk_un (by omega), pk_un (by decide)]; exact p9
    · have := (List.getElem?_eq_some_iff.mp hj).1
      rw [G7 _ (by omega), D3 _ (by omega)]
      exact p10 j x hj
