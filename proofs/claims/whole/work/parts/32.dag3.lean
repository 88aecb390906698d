/-! the sorted rows: the reference's (the least again and again), the class's (each put into its place) -/
theorem no_bits {x : Int64} (h : ∀ b, b < 64 → tb x b = false) : x = 0 := tb_ext (fun b hb => by rw [h b hb, tb_0])
theorem some_bit {x : Int64} (h : ¬ x = 0) : ∃ b, b < 64 ∧ tb x b = true := by
  refine Classical.byContradiction (fun q => h (no_bits (fun b hb => ?_)))
  cases t : tb x b with
  | false => rfl
  | true => exact absurd ⟨b, hb, t⟩ q
theorem e_mergeL39 {fs h f : Nat → Int32} {sc : Nat → Nat} {x : Int64} (hs : ∀ b, b < 60 → tb x b = true → fs b = nI (sc b) ∧ sc b ≤ 64) (hx : ∀ b, 60 ≤ b → tb x b = false) : ∃ o, mo_lp (m_mm_merge_L39 fs h) 1000 (x, 0, f) = some o ∧ ∃ (l : List Nat) (f' : Nat → Int32), o = (nI l.length, f') ∧ SL sc h x l ∧ hL f' l ∧ l.length = cnt x 60 := by
  have hn : cnt x 60 ≤ 60 := cnt_le x 60
  refine lp_ix (cnt x 60) (fun j z => ∃ (l : List Nat) (rest : Int64) (f : Nat → Int32), z = (rest, nI j, f) ∧ l.length = j ∧ l.Pairwise (bef sc h) ∧ (∀ b ∈ l, tb x b = true) ∧ (∀ b, tb rest b = true ↔ (tb x b = true ∧ b ∉ l)) ∧ (∀ a ∈ l, ∀ b, tb rest b = true → bef sc h a b) ∧ hL f l ∧ cnt rest 60 + j = cnt x 60) (fun o => ∃ (l : List Nat) (f' : Nat → Int32), o = (nI l.length, f') ∧ SL sc h x l ∧ hL f' l ∧ l.length = cnt x 60) ?_ 1000 0 (x, 0, f) (Nat.zero_le _) ⟨[], x, f, rfl, rfl, List.Pairwise.nil, fun b hb => absurd hb List.not_mem_nil, fun b => ⟨fun q => ⟨q, List.not_mem_nil⟩, fun q => q.1⟩, fun a ha => absurd ha List.not_mem_nil, hL_nil f, rfl⟩ (by omega)
  intro back j z hj hz ih
  obtain ⟨l, rest, f, rfl, hl, hp, hin, hre, hlt, hh, hc⟩ := hz
  unfold m_mm_merge_L39
  dsimp only
  by_cases e : rest = 0
  · rw [mo_T e]
    refine ⟨_, rfl, l, f, by rw [hl], ⟨hp, fun b => ⟨hin b, fun q => ?_⟩⟩, hh, ?_⟩
    · refine Classical.byContradiction (fun w => ?_)
      have := (hre b).mpr ⟨q, w⟩
      rw [e, tb_0] at this
      cases this
    · rw [e, cnt_zero] at hc
      omega
  · rw [mo_F e]
    obtain ⟨b0, hb0, ht0⟩ := some_bit e
    have hb60 : b0 < 60 := by
      refine Classical.byContradiction (fun q => ?_)
      have := hx b0 (by omega)
      rw [((hre b0).mp ht0).1] at this
      cases this
    have hs' : ∀ b, b < 60 → tb rest b = true → fs b = nI (sc b) ∧ sc b ≤ 64 := fun b h1 h2 => hs b h1 ((hre b).mp h2).1
    rw [e_mergeL51 hs', mo_bs]
    cases hb : best (bfb sc h) rest 60 with
    | none =>
      have := best_no hb b0 hb60
      rw [ht0] at this
      cases this
    | some s =>
      obtain ⟨s1, s2⟩ := best_in hb
      have hj2 : j < cnt x 60 := by
        have := cnt_pos ht0 (n := 60) hb60
        omega
      rw [show oI (some s) = nI s from rfl, mo_wIn (by omega) (by decide), ← nI_succ]
      have hr : ∀ c, c < 64 → tb (rest &&& (bi s ^^^ (-1))) c = (tb rest c && !decide (c = s)) := fun c hc2 => by rw [tb_and, tb_not _ hc2, tb_bi (by omega)]
      refine ih (rest &&& (bi s ^^^ (-1)), nI (j + 1), upd f j (nI s)) hj2 ⟨l ++ [s], rest &&& (bi s ^^^ (-1)), upd f j (nI s), rfl, ?_, ?_, ?_, ?_, ?_, ?_, ?_⟩
      · rw [List.length_append, hl]
        rfl
      · refine List.pairwise_append.mpr ⟨hp, List.pairwise_singleton _ _, fun a ha b hb2 => ?_⟩
        rw [List.mem_singleton.mp hb2]
        exact hlt a ha s s2
      · intro b hb2
        rcases List.mem_append.mp hb2 with q | q
        · exact hin b q
        · rw [List.mem_singleton.mp q]
          exact ((hre s).mp s2).1
      · intro b
        by_cases hb64 : b < 64
        · rw [hr b hb64, Bool.and_eq_true, hre, Bool.not_eq_true', decide_eq_false_iff_not, List.mem_append, List.mem_singleton]
          constructor
          · rintro ⟨⟨q1, q2⟩, q3⟩
            exact ⟨q1, fun w => w.elim q2 q3⟩
          · rintro ⟨q1, q2⟩
            exact ⟨⟨q1, fun w => q2 (Or.inl w)⟩, fun w => q2 (Or.inr w)⟩
        · constructor
          · intro q
            rw [tb_big (by omega)] at q
            cases q
          · rintro ⟨q, -⟩
            rw [tb_big (by omega)] at q
            cases q
      · intro a ha b hb2
        have hb64 : b < 64 := by
          refine Classical.byContradiction (fun q => ?_)
          rw [tb_big (by omega)] at hb2
          cases hb2
        rw [hr b hb64, Bool.and_eq_true, Bool.not_eq_true', decide_eq_false_iff_not] at hb2
        rcases List.mem_append.mp ha with q | q
        · exact hlt a q b hb2.1
        · rw [List.mem_singleton.mp q]
          have hb60 : b < 60 := by
            refine Classical.byContradiction (fun w => ?_)
            have := hx b (by omega)
            rw [((hre b).mp hb2.1).1] at this
            cases this
          exact best_min hb b hb60 hb2.1 hb2.2
      · rw [← hl]
        exact hL_snoc hh s
      · have := cnt_del s2 hr (n := 60) (by decide) s1
        omega
theorem e_merge {fp : Nat → Int64} {fsel fs h fm : Nat → Int32} {sc : Nat → Nat} {r s : Nat} (hr : r < 61) (hs1 : s < 61) (hsel : fsel r = nI s) (hs : ∀ b, b < 60 → tb (mgd fp r s) b = true → fs b = nI (sc b) ∧ sc b ≤ 64) (hx : ∀ b, 60 ≤ b → tb (mgd fp r s) b = false) : ∃ (l : List Nat) (f' : Nat → Int32), m_mm_merge fp fsel fs h fm (nI r) = some (nI l.length, f') ∧ SL sc h (mgd fp r s) l ∧ hL f' l ∧ l.length = cnt (mgd fp r s) 60 := by
  obtain ⟨o, h1, l, f', h2, h3, h4, h5⟩ := e_mergeL39 (f := fm) hs hx
  refine ⟨l, f', ?_, h3, h4, h5⟩
  unfold m_mm_merge
  rw [mo_rLn hr (by decide), mo_rIn hr (by decide), hsel, mo_rLn hs1 (by decide), mo_rIn hr (by decide), hsel]
  show mo_bd (mo_lp (m_mm_merge_L39 fs h) 1000 (mgd fp r s, 0, fm)) _ = _
  rw [h1, h2, mo_bs]
theorem ins_get {l : List Nat} {k : Nat} (hk : k ≤ l.length) (b i : Nat) : (l.take k ++ b :: l.drop k)[i]? = if i < k then l[i]? else if i = k then some b else l[i - 1]? := by
  rw [List.getElem?_append, List.length_take, Nat.min_eq_left hk]
  by_cases h : i < k
  · rw [if_pos h, if_pos h, List.getElem?_take, if_pos h]
  · rw [if_neg h, if_neg h]
    by_cases e : i = k
    · subst e
      rw [if_pos rfl, Nat.sub_self]
      rfl
    · rw [if_neg e]
      obtain ⟨m, hm⟩ : ∃ m, i - k = m + 1 := ⟨i - k - 1, by omega⟩
      rw [hm, List.getElem?_cons_succ, List.getElem?_drop]
      congr 1
      omega
theorem e_sortL32 {fs h f : Nat → Int32} {sc : Nat → Nat} {b c : Nat} (g : Nat → Nat) (hc : c < 60) (hb : b < 60) (hg : ∀ i, i < c → g i < 60 ∧ fs (g i) = nI (sc (g i)) ∧ sc (g i) ≤ 64) (sb : fs b = nI (sc b)) (lb : sc b ≤ 64) (hf : ∀ i, i < c → f i = nI (g i)) : ∃ o, mo_lp (m_dg_sortByScore_L32 fs h (nI b)) 1000 (nI c, f) = some o ∧ ∃ (k : Nat) (f' : Nat → Int32), o = (nI k, f') ∧ k ≤ c ∧ (∀ i, i < k → f' i = nI (g i)) ∧ (∀ i, k < i → i ≤ c → f' i = nI (g (i - 1))) ∧ (∀ i, k ≤ i → i < c → bef sc h b (g i)) ∧ (k = 0 ∨ ¬ bef sc h b (g (k - 1))) := by
  refine lp_ix c (fun j z => ∃ f : Nat → Int32, z = (nI (c - j), f) ∧ (∀ i, i < c - j → f i = nI (g i)) ∧ (∀ i, c - j < i → i ≤ c → f i = nI (g (i - 1))) ∧ (∀ i, c - j ≤ i → i < c → bef sc h b (g i))) (fun o => ∃ (k : Nat) (f' : Nat → Int32), o = (nI k, f') ∧ k ≤ c ∧ (∀ i, i < k → f' i = nI (g i)) ∧ (∀ i, k < i → i ≤ c → f' i = nI (g (i - 1))) ∧ (∀ i, k ≤ i → i < c → bef sc h b (g i)) ∧ (k = 0 ∨ ¬ bef sc h b (g (k - 1)))) ?_ 1000 0 (nI c, f) (Nat.zero_le _) ⟨f, rfl, fun i hi => hf i (by omega), fun i h1 h2 => by omega, fun i h1 h2 => by omega⟩ (by omega)
  intro back j z hj hz ih
  obtain ⟨f, rfl, h1, h2, h3⟩ := hz
  unfold m_dg_sortByScore_L32
  dsimp only
  by_cases e : j = c
  · subst e
    rw [mo_T (show nI (j - j) ≤ 0 by rw [Nat.sub_self]; decide)]
    exact ⟨_, rfl, j - j, f, rfl, by omega, h1, h2, h3, Or.inl (by omega)⟩
  · obtain ⟨a, ha⟩ : ∃ a, c - j = a + 1 := ⟨c - j - 1, by omega⟩
    rw [ha] at h1 h2 h3
    have ea : nI (a + 1) - 1 = nI a := pk_sub (b := 1) (by omega)
    obtain ⟨g1, g2, g3⟩ := hg a (by omega)
    rw [ha, mo_F (show ¬ nI (a + 1) ≤ 0 from nI_ge (a := 0) (by omega) (by omega)), ea, mo_rIn (by omega) (by decide), h1 a (by omega), e_isBefore hb g1 sb g2 lb g3, mo_bs]
    cases q : decide (bef sc h b (g a)) with
    | false =>
      rw [mo_T bI_f]
      exact ⟨_, rfl, a + 1, f, rfl, by omega, h1, h2, h3, Or.inr (of_decide_eq_false q)⟩
    | true =>
      rw [mo_F (by decide), mo_rIn (by omega) (by decide), h1 a (by omega), mo_wIn (by omega) (by decide), pk_m1]
      refine ih (nI a, upd f (a + 1) (nI (g a))) (by omega) ⟨upd f (a + 1) (nI (g a)), by rw [show c - (j + 1) = a by omega], ?_, ?_, ?_⟩
      · intro i hi
        rw [pk_un (by omega)]
        exact h1 i (by omega)
      · intro i hi1 hi2
        by_cases ei : i = a + 1
        · subst ei
          rw [pk_us]
          rfl
        · rw [pk_un ei]
          exact h2 i (by omega) hi2
      · intro i hi1 hi2
        by_cases ei : i = a
        · subst ei
          exact of_decide_eq_true q
        · exact h3 i (by omega) hi2
theorem e_sort {fs h f : Nat → Int32} {sc : Nat → Nat} {x : Int64} {N : Nat} (hN : N ≤ 60) (hs : ∀ b, b < 60 → tb x b = true → fs b = nI (sc b) ∧ sc b ≤ 64) (hx : ∀ b, N ≤ b → tb x b = false) : ∃ (l : List Nat) (f' : Nat → Int32), m_dg_sortByScore (nI N) f fs h x = some (nI l.length, f') ∧ SL sc h x l ∧ hL f' l ∧ l.length ≤ N := by
  have key : ∃ o, mo_lp (m_dg_sortByScore_L5 (nI N) fs h x) 1000 (0, 0, f) = some o ∧ ∃ (l : List Nat) (f' : Nat → Int32), o = (nI l.length, f') ∧ SL sc h x l ∧ hL f' l ∧ l.length ≤ N := by
    refine lp_ix N (fun j z => ∃ (l : List Nat) (f : Nat → Int32), z = (nI l.length, nI j, f) ∧ l.Pairwise (bef sc h) ∧ (∀ b, b ∈ l ↔ (tb x b = true ∧ b < j)) ∧ hL f l ∧ l.length ≤ j) (fun o => ∃ (l : List Nat) (f' : Nat → Int32), o = (nI l.length, f') ∧ SL sc h x l ∧ hL f' l ∧ l.length ≤ N) ?_ 1000 0 (0, 0, f) (Nat.zero_le _) ⟨[], f, rfl, List.Pairwise.nil, fun b => ⟨fun q => absurd q List.not_mem_nil, fun q => by omega⟩, hL_nil f, Nat.le_refl _⟩ (by omega)
    intro back j z hj hz ih
    obtain ⟨l, f, rfl, hp, hm, hh, hlen⟩ := hz
    unfold m_dg_sortByScore_L5
    dsimp only
    by_cases e : j = N
    · subst e
      rw [mo_T (nI_le (Nat.le_refl _) (by omega))]
      refine ⟨_, rfl, l, f, rfl, ⟨hp, fun b => ?_⟩, hh, hlen⟩
      rw [hm]
      constructor
      · exact fun q => q.1
      · intro q
        refine ⟨q, Classical.byContradiction (fun w => ?_)⟩
        have := hx b (by omega)
        rw [q] at this
        cases this
    · rw [mo_F (nI_ge (by omega) (by omega)), e_holds' x (by omega), mo_bs, mo_js]
      cases t : tb x j with
      | false =>
        rw [mo_T bI_f, ← nI_succ]
        refine ih _ (by omega) ⟨l, f, rfl, hp, fun b => ?_, hh, by omega⟩
        rw [hm]
        constructor
        · rintro ⟨q1, q2⟩
          exact ⟨q1, by omega⟩
        · rintro ⟨q1, q2⟩
          refine ⟨q1, ?_⟩
          have : b ≠ j := fun w => by rw [w, t] at q1; cases q1
          omega
      | true =>
        rw [mo_F (by decide)]
        have hget : ∀ i, (hi : i < l.length) → l[i]? = some (l.getD i 0) := fun i hi => by
          rw [List.getD_eq_getElem?_getD, List.getElem?_eq_getElem hi]
          rfl
        have hmem : ∀ i, i < l.length → l.getD i 0 ∈ l := fun i hi => List.mem_of_getElem? (hget i hi)
        obtain ⟨o, h1, k, f', rfl, hk, p1, p2, p3, p4⟩ := e_sortL32 (h := h) (f := f) (b := j) (c := l.length) (fun i => l.getD i 0) (by omega) (by omega) (fun i hi => by
          obtain ⟨q1, q2⟩ := (hm _).mp (hmem i hi)
          obtain ⟨q3, q4⟩ := hs _ (by omega) q1
          exact ⟨by omega, q3, q4⟩) (hs j (by omega) t).1 (hs j (by omega) t).2 (fun i hi => hh i _ (hget i hi))
        rw [h1, mo_bs]
        dsimp only
        rw [mo_wIn (by omega) (by decide), ← nI_succ, ← nI_succ]
        have hjl : j ∉ l := fun q => by have := ((hm j).mp q).2; omega
        refine ih _ (by omega) ⟨l.take k ++ j :: l.drop k, upd f' k (nI j), ?_, ?_, ?_, ?_, ?_⟩
        · rw [List.length_append, List.length_take, List.length_cons, List.length_drop, Nat.min_eq_left hk, show k + (l.length - k + 1) = l.length + 1 by omega]
        · have hp2 : (l.take k ++ l.drop k).Pairwise (bef sc h) := by rw [List.take_append_drop]; exact hp
          obtain ⟨t1, t2, t3⟩ := List.pairwise_append.mp hp2
          have hd : ∀ d ∈ l.drop k, bef sc h j d := by
            intro d hd
            obtain ⟨i, hi⟩ := List.getElem?_of_mem hd
            rw [List.getElem?_drop] at hi
            have hil : k + i < l.length := (List.getElem?_eq_some_iff.mp hi).1
            have e1 := hget (k + i) hil
            rw [hi] at e1
            rw [Option.some.inj e1]
            exact p3 (k + i) (by omega) hil
          have ha : ∀ a ∈ l.take k, bef sc h a j := by
            intro a ha
            rcases p4 with p4 | p4
            · rw [p4] at ha
              exact absurd ha List.not_mem_nil
            · have hk0 : 0 < k := by
                refine Classical.byContradiction (fun w => ?_)
                have : k = 0 := by omega
                rw [this] at ha
                exact absurd ha List.not_mem_nil
              have hne : l.getD (k - 1) 0 ≠ j := fun w => hjl (w ▸ hmem (k - 1) (by omega))
              have hlast : bef sc h (l.getD (k - 1) 0) j := by
                rcases bef_to (sc := sc) (hs := h) hne with w | w
                · exact w
                · exact absurd w p4
              obtain ⟨i, hi⟩ := List.getElem?_of_mem ha
              rw [List.getElem?_take] at hi
              by_cases hik : i < k
              · rw [if_pos hik] at hi
                have hil : i < l.length := by omega
                have e1 := hget i hil
                rw [hi] at e1
                have e2 := Option.some.inj e1
                by_cases ei : i = k - 1
                · rw [e2, ei]
                  exact hlast
                · have hpi := List.pairwise_iff_getElem.mp hp i (k - 1) hil (by omega) (by omega)
                  have e3 : l[i] = a := by
                    rw [List.getElem?_eq_getElem hil] at hi
                    exact Option.some.inj hi
                  have e4 : l[k - 1] = l.getD (k - 1) 0 := by
                    have := hget (k - 1) (by omega)
                    rw [List.getElem?_eq_getElem (by omega)] at this
                    exact Option.some.inj this
                  rw [e3, e4] at hpi
                  exact bef_tr hpi hlast
              · rw [if_neg hik] at hi
                cases hi
          refine List.pairwise_append.mpr ⟨t1, List.pairwise_cons.mpr ⟨hd, t2⟩, fun a ha2 d hd2 => ?_⟩
          rcases List.mem_cons.mp hd2 with w | w
          · rw [w]
            exact ha a ha2
          · exact t3 a ha2 d w
        · intro b
          have e0 : b ∈ l.take k ++ j :: l.drop k ↔ b ∈ l ∨ b = j := by
            rw [List.mem_append, List.mem_cons]
            have e1 : b ∈ l ↔ b ∈ l.take k ∨ b ∈ l.drop k := by
              rw [← List.mem_append, List.take_append_drop]
            rw [e1]
            constructor
            · rintro (q | q | q)
              · exact Or.inl (Or.inl q)
              · exact Or.inr q
              · exact Or.inl (Or.inr q)
            · rintro ((q | q) | q)
              · exact Or.inl q
              · exact Or.inr (Or.inr q)
              · exact Or.inr (Or.inl q)
          rw [e0, hm]
          constructor
          · rintro (⟨q1, q2⟩ | q)
            · exact ⟨q1, by omega⟩
            · subst q
              exact ⟨t, by omega⟩
          · rintro ⟨q1, q2⟩
            by_cases w : b = j
            · exact Or.inr w
            · exact Or.inl ⟨q1, by omega⟩
        · intro i d hd
          rw [ins_get hk] at hd
          by_cases w : i < k
          · rw [if_pos w] at hd
            rw [pk_un (by omega), p1 i w]
            have := hget i (by omega)
            rw [hd] at this
            rw [Option.some.inj this]
          · rw [if_neg w] at hd
            by_cases w2 : i = k
            · rw [if_pos w2] at hd
              rw [w2, pk_us]
              cases hd
              rfl
            · rw [if_neg w2] at hd
              have hil : i - 1 < l.length := (List.getElem?_eq_some_iff.mp hd).1
              rw [pk_un w2, p2 i (by omega) (by omega)]
              have := hget (i - 1) hil
              rw [hd] at this
              rw [Option.some.inj this]
        · rw [List.length_append, List.length_take, List.length_cons, List.length_drop, Nat.min_eq_left hk]
          omega
  obtain ⟨o, h1, l, f', rfl, h2, h3, h4⟩ := key
  refine ⟨l, f', ?_, h2, h3, h4⟩
  unfold m_dg_sortByScore
  rw [h1, mo_bs]
