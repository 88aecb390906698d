/-! settle (the class) and work (the reference) -/
noncomputable def bfold (ps : Nat → Int64) (k : Nat) : List Nat → Int64 → Int64
  | [], S => S
  | b :: l, S => bfold ps k l (if goodB ps k (S ||| bi b) = true then S ||| bi b else S)
theorem good_congr {ps ps' : Nat → Int64} {k : Nat} {S : Int64} (h : ∀ y, tb S y = true → ps y = ps' y) : goodB ps k S = goodB ps' k S := by
  refine pB_iff ?_
  have e : ∀ x, tb S x = true → nap ps S x 60 = nap ps' S x 60 := fun x hx => nap_congr (fun y _ hy => by
    unfold ap
    rw [h x hx, h y hy])
  constructor
  · intro w x hx ht
    rw [← e x ht]
    exact w x hx ht
  · intro w x hx ht
    rw [e x ht]
    exact w x hx ht
theorem sub_add {M S : Int64} {b : Nat} (hb : b < 64) (hM : tb M b = true) (hS : ∀ y, tb S y = true → tb M y = true) : ∀ y, tb (S ||| bi b) y = true → tb M y = true := by
  intro y hy
  rw [tb_or, tb_bi hb, Bool.or_eq_true, decide_eq_true_iff] at hy
  rcases hy with q | q
  · exact hS y q
  · rw [q]; exact hM
theorem bfold_congr {ps ps' : Nat → Int64} {k : Nat} {M : Int64} (h : ∀ y, tb M y = true → ps y = ps' y) : ∀ (l : List Nat) (S : Int64), (∀ b ∈ l, b < 64 ∧ tb M b = true) → (∀ y, tb S y = true → tb M y = true) → bfold ps k l S = bfold ps' k l S := by
  intro l
  induction l with
  | nil => intro S _ _; rfl
  | cons b l ih =>
    intro S hl hS
    obtain ⟨b1, b2⟩ := hl b List.mem_cons_self
    have hSb := sub_add b1 b2 hS
    show bfold ps k l (if goodB ps k (S ||| bi b) = true then _ else _) = bfold ps' k l (if goodB ps' k (S ||| bi b) = true then _ else _)
    rw [good_congr (ps' := ps') (fun y hy => h y (hSb y hy))]
    by_cases q : goodB ps' k (S ||| bi b) = true
    · rw [if_pos q]
      exact ih _ (fun c hc => hl c (List.mem_cons_of_mem _ hc)) hSb
    · rw [if_neg q]
      exact ih _ (fun c hc => hl c (List.mem_cons_of_mem _ hc)) hS
theorem bfold_sub {ps : Nat → Int64} {k : Nat} {M : Int64} : ∀ (l : List Nat) (S : Int64), (∀ b ∈ l, b < 64 ∧ tb M b = true) → (∀ y, tb S y = true → tb M y = true) → ∀ y, tb (bfold ps k l S) y = true → tb M y = true := by
  intro l
  induction l with
  | nil => intro S _ hS; exact hS
  | cons b l ih =>
    intro S hl hS
    obtain ⟨b1, b2⟩ := hl b List.mem_cons_self
    have hSb := sub_add b1 b2 hS
    show ∀ y, tb (bfold ps k l (if goodB ps k (S ||| bi b) = true then _ else _)) y = true → _
    by_cases q : goodB ps k (S ||| bi b) = true
    · rw [if_pos q]
      exact ih _ (fun c hc => hl c (List.mem_cons_of_mem _ hc)) hSb
    · rw [if_neg q]
      exact ih _ (fun c hc => hl c (List.mem_cons_of_mem _ hc)) hS
theorem bfold_sup {ps : Nat → Int64} {k : Nat} : ∀ (l : List Nat) (S : Int64) (y : Nat), tb S y = true → tb (bfold ps k l S) y = true := by
  intro l
  induction l with
  | nil => intro S y h; exact h
  | cons b l ih =>
    intro S y h
    show tb (bfold ps k l (if goodB ps k (S ||| bi b) = true then _ else _)) y = true
    by_cases q : goodB ps k (S ||| bi b) = true
    · rw [if_pos q]
      exact ih _ y (by rw [tb_or, h, Bool.true_or])
    · rw [if_neg q]
      exact ih _ y h
theorem bfold_good {ps : Nat → Int64} {k : Nat} : ∀ (l : List Nat) (S : Int64), goodB ps k S = true → goodB ps k (bfold ps k l S) = true := by
  intro l
  induction l with
  | nil => intro S h; exact h
  | cons b l ih =>
    intro S h
    show goodB ps k (bfold ps k l (if goodB ps k (S ||| bi b) = true then _ else _)) = true
    by_cases q : goodB ps k (S ||| bi b) = true
    · rw [if_pos q]
      exact ih _ q
    · rw [if_neg q]
      exact ih _ h
theorem nap_0 {ps : Nat → Int64} {S : Int64} {x : Nat} : ∀ {n : Nat}, (∀ y, y < n → tb S y = true → ap ps x y = false) → nap ps S x n = 0 := by
  intro n
  induction n with
  | zero => intro _; rfl
  | succ n ih =>
    intro h
    show nap ps S x n + (tb S n && ap ps x n).toNat = 0
    rw [ih (fun y hy => h y (by omega))]
    cases t : tb S n with
    | false => rfl
    | true => rw [h n (by omega) t]; rfl
theorem good_add {ps : Nat → Int64} {k s : Nat} {S : Int64} (hs : s < 60) (hS : tb S s = false) (hg : goodB ps k S = true) (h : ∀ y, tb S y = true → ap ps s y = false) : goodB ps k (S ||| bi s) = true := by
  have hg := pB_of hg
  refine pB_t (fun x hx ht => ?_)
  rw [nap_add (by omega) hS (by decide), if_pos hs]
  rw [tb_or, tb_bi (by omega), Bool.or_eq_true, decide_eq_true_iff] at ht
  by_cases ex : x = s
  · subst ex
    rw [ap_self, nap_0 (fun y _ hy => h y hy)]
    exact Nat.zero_le _
  · have ht : tb S x = true := ht.elim id (fun w => absurd w ex)
    rw [ap_sym, h x ht]
    exact hg x hx ht
theorem e_settleL64 {M S0 : Int64} {fp ff : Nat → Int64} {k N : Nat} {l : List Nat} {f : Nat → Int32} (hk : k ≤ 60) (hN : N ≤ 60) (hM : ∀ y, tb M y = true → y < N) (hl : ∀ b ∈ l, tb M b = true) (hnd : l.Nodup) (hf : ∀ x y, tb M x = true → tb M y = true → tb (ff x) y = tb (fp y) x) (hh : hL f l) (hlen : l.length ≤ 60) (h0 : ∀ y, tb S0 y = true → tb M y = true) (hg : goodB fp k S0 = true) (hno : ∀ b ∈ l, tb S0 b = false) : mo_lp (m_dg_settle_L64 (nI k) M (nI N) ff fp (nI l.length) f) 1000 (S0, 0) = some (bfold fp k l S0) := by
  refine so_eq (lp_ix l.length (fun j z => ∃ S : Int64, z = (S, nI j) ∧ (∀ y, tb S y = true → tb M y = true) ∧ goodB fp k S = true ∧ (∀ b ∈ l.drop j, tb S b = false) ∧ bfold fp k (l.drop j) S = bfold fp k l S0) (fun o => o = bfold fp k l S0) ?_ 1000 0 (S0, 0) (Nat.zero_le _) ⟨S0, rfl, h0, hg, hno, rfl⟩ (by omega))
  intro back j z hj hz ih
  obtain ⟨S, rfl, s1, s2, s3, s4⟩ := hz
  unfold m_dg_settle_L64
  dsimp only
  by_cases e : j = l.length
  · rw [mo_T (by rw [e]; exact nI_le (Nat.le_refl _) (by omega))]
    rw [e, List.drop_length] at s4
    exact ⟨_, rfl, s4⟩
  · have hjl : j < l.length := by omega
    have hd : l.drop j = l[j] :: l.drop (j + 1) := List.drop_eq_getElem_cons hjl
    have hfj : f j = nI l[j] := hh j _ (List.getElem?_eq_getElem hjl)
    have hbl : tb M l[j] = true := hl _ (List.getElem_mem hjl)
    have hb60 : l[j] < 60 := Nat.lt_of_lt_of_le (hM _ hbl) hN
    have hSb : tb S l[j] = false := s3 _ (by rw [hd]; exact List.mem_cons_self)
    have hnd2 : l[j] ∉ l.drop (j + 1) := by
      have h5 : (l.drop j).Nodup := hnd.sublist (List.drop_sublist _ _)
      rw [hd] at h5
      exact (List.nodup_cons.mp h5).1
    rw [mo_F (nI_ge hjl (by omega)), mo_rIn (by omega) (by decide), hfj, e_fits hk hN hM hbl s1 hf, mo_bs, mo_js, fit_good hb60 hSb s2]
    rw [hd] at s3 s4
    have s4 : bfold fp k (l.drop (j + 1)) (if goodB fp k (S ||| bi l[j]) = true then S ||| bi l[j] else S) = bfold fp k l S0 := s4
    cases q : goodB fp k (S ||| bi l[j]) with
    | false =>
      rw [mo_T bI_f, ← nI_succ]
      rw [if_neg (by rw [q]; decide)] at s4
      exact ih _ hjl ⟨S, rfl, s1, s2, fun b hb => s3 b (List.mem_cons_of_mem _ hb), s4⟩
    | true =>
      rw [mo_F (by decide), mo_rIn (by omega) (by decide), hfj, e_bit, mo_bs, ← nI_succ]
      rw [if_pos q] at s4
      refine ih _ hjl ⟨S ||| bi l[j], rfl, sub_add (by omega) hbl s1, q, fun b hb => ?_, s4⟩
      rw [tb_or, tb_bi (by omega), s3 b (List.mem_cons_of_mem _ hb), decide_eq_false (fun w : b = l[j] => hnd2 (by rw [← w]; exact hb))]
      rfl
theorem e_workL140 {S0 : Int64} {fp : Nat → Int64} {k : Nat} {l : List Nat} {f : Nat → Int32} (hk : k ≤ 60) (hh : hL f l) (hlen : l.length ≤ 60) : mo_lp (m_mm_work_L140 (nI k) fp (nI l.length) f) 1000 (S0, 0) = some (bfold fp k l S0) := by
  refine so_eq (lp_ix l.length (fun j z => ∃ S : Int64, z = (S, nI j) ∧ bfold fp k (l.drop j) S = bfold fp k l S0) (fun o => o = bfold fp k l S0) ?_ 1000 0 (S0, 0) (Nat.zero_le _) ⟨S0, rfl, rfl⟩ (by omega))
  intro back j z hj hz ih
  obtain ⟨S, rfl, s4⟩ := hz
  unfold m_mm_work_L140
  dsimp only
  by_cases e : j = l.length
  · rw [mo_T (by rw [e]; exact nI_le (Nat.le_refl _) (by omega))]
    rw [e, List.drop_length] at s4
    exact ⟨_, rfl, s4⟩
  · have hjl : j < l.length := by omega
    have hd : l.drop j = l[j] :: l.drop (j + 1) := List.drop_eq_getElem_cons hjl
    have hfj : f j = nI l[j] := hh j _ (List.getElem?_eq_getElem hjl)
    rw [mo_F (nI_ge hjl (by omega)), mo_rIn (by omega) (by decide), hfj]
    show ∃ o, mo_bd (m_mm_goes (nI k) fp (S ||| bi l[j])) _ = some o ∧ _
    rw [e_goes hk, mo_bs, mo_js]
    rw [hd] at s4
    have s4 : bfold fp k (l.drop (j + 1)) (if goodB fp k (S ||| bi l[j]) = true then S ||| bi l[j] else S) = bfold fp k l S0 := s4
    cases q : goodB fp k (S ||| bi l[j]) with
    | false =>
      rw [mo_T bI_f, ← nI_succ]
      rw [if_neg (by rw [q]; decide)] at s4
      exact ih _ hjl ⟨S, rfl, s4⟩
    | true =>
      rw [mo_F (by decide), mo_rIn (by omega) (by decide), hfj, ← nI_succ]
      rw [if_pos q] at s4
      exact ih _ hjl ⟨S ||| bi l[j], rfl, s4⟩
/-- what is so of the rows of the blocks that are in the DAG -/
def DOK (N k : Nat) (M : Int64) (sc : Nat → Nat) (cs : Nat → Int32) (cp cb : Nat → Int64) : Prop := N ≤ 60 ∧ k ≤ 60 ∧ (∀ y, tb M y = true → y < N) ∧ (∀ y, tb M y = true → cs y = nI (sc y) ∧ sc y ≤ 64) ∧ (∀ y z, tb M y = true → tb (cp y) z = true → tb M z = true ∧ z < y) ∧ (∀ y z, tb M y = true → tb (cb y) z = true → tb (cp y) z = true) ∧ (∀ y, tb M y = true → goodB cp k (cb y) = true)
/-- the past of a row with these parents -/
def stP (ps : Nat → Int64) (x : Int64) : Int64 := x ||| orp ps x 60
theorem stP_sub {N k : Nat} {M x : Int64} {sc : Nat → Nat} {cs : Nat → Int32} {cp cb : Nat → Int64} (hD : DOK N k M sc cs cp cb) (hx : ∀ y, tb x y = true → tb M y = true) : ∀ y, tb (stP cp x) y = true → tb M y = true := by
  intro y hy
  unfold stP at hy
  rw [tb_or, Bool.or_eq_true, tb_orp] at hy
  rcases hy with q | ⟨p, _, q1, q2⟩
  · exact hx y q
  · exact (hD.2.2.2.2.1 p y (hx p q1) q2).1
theorem SL_nd {sc : Nat → Nat} {h : Nat → Int32} {x : Int64} {l : List Nat} (hs : SL sc h x l) : l.Nodup := by
  unfold List.Nodup
  refine hs.1.imp (fun {a b} (hab : bef sc h a b) (e : a = b) => ?_)
  subst e
  exact bef_as _ _ hab hab
/-- what the rows' common part says: the chosen parent, the merged ones, the blue ones -/
def STL (sc : Nat → Nat) (h : Nat → Int32) (ps bl : Nat → Int64) (k r : Nat) (x : Int64) (s : Nat) (l : List Nat) (B : Int64) : Prop := best (hvb sc h) x 60 = some s ∧ SL sc h (mgd (vp_updL ps r (stP ps x)) r s) l ∧ B = bfold (vp_updL ps r (stP ps x)) k l (bl s ||| bi s)
theorem stl_pre {N k r s : Nat} {M x : Int64} {sc : Nat → Nat} {h cs : Nat → Int32} {cp cb : Nat → Int64} (hD : DOK N k M sc cs cp cb) (hx : ∀ y, tb x y = true → tb M y = true) (hr : tb M r = false) (hs : best (hvb sc h) x 60 = some s) : (tb x s = true ∧ tb M s = true ∧ s < 60 ∧ s ≠ r) ∧ (∀ y, tb M y = true → vp_updL cp r (stP cp x) y = cp y) ∧ (∀ y, tb (mgd (vp_updL cp r (stP cp x)) r s) y = true → tb M y = true ∧ tb (stP cp x) y = true ∧ tb (cp s) y = false ∧ y ≠ s) ∧ (∀ y, 60 ≤ y → tb M y = false) := by
  obtain ⟨d1, d2, d3, d4, d5, d6, d7⟩ := hD
  obtain ⟨s1, s2⟩ := best_in hs
  have sM := hx s s2
  have hsr : s ≠ r := fun w => by rw [w, hr] at sM; cases sM
  have hup : ∀ y, tb M y = true → vp_updL cp r (stP cp x) y = cp y := fun y hy => pk_uLn (fun w => by rw [w, hr] at hy; cases hy)
  have hbig : ∀ y, 60 ≤ y → tb M y = false := fun y hy => by
    cases t : tb M y with
    | false => rfl
    | true => have := d3 y t; omega
  refine ⟨⟨s2, sM, s1, hsr⟩, hup, fun y hy => ?_, hbig⟩
  have hy64 : y < 64 := by
    refine Classical.byContradiction (fun w => ?_)
    rw [tb_big (by omega)] at hy
    cases hy
  rw [tb_mgd (by omega) hy64, pk_uLs, hup s sM, Bool.and_eq_true, Bool.and_eq_true, Bool.not_eq_true', Bool.not_eq_true', decide_eq_false_iff_not] at hy
  exact ⟨stP_sub ⟨d1, d2, d3, d4, d5, d6, d7⟩ hx y hy.1.1, hy.1.1, hy.1.2, hy.2⟩
theorem e_settle {N k r : Nat} {M x : Int64} {sc : Nat → Nat} {h cs csel fso : Nat → Int32} {cp cb cf : Nat → Int64} (hD : DOK N k M sc cs cp cb) (hf : ∀ x y, tb M x = true → tb M y = true → tb (cf x) y = tb (cp y) x) (hx : ∀ y, tb x y = true → tb M y = true) (hne : ∃ y, tb x y = true) (hr : tb M r = false) (hr61 : r < 61) : ∃ (s : Nat) (l : List Nat) (B : Int64) (fso' : Nat → Int32), STL sc h cp cb k r x s l B ∧ hL fso' l ∧ m_dg_settle (nI k) M (nI N) cs h csel cp cb fso cf (nI r) x = some (upd cs r (nI (cnt B 64)), upd csel r (nI s), vp_updL cp r (stP cp x), vp_updL cb r B, fso') := by
  have hD0 := hD
  obtain ⟨d1, d2, d3, d4, d5, d6, d7⟩ := hD
  obtain ⟨y0, hy0⟩ := hne
  have hxN : ∀ b, N ≤ b → tb x b = false := fun b hb => by
    cases t : tb x b with
    | false => rfl
    | true => have := d3 b (hx b t); omega
  have hbe : best (hvb sc h) x 60 = best (hvb sc h) x N := best_ext d1 (fun b h1 _ => hxN b h1)
  have hoe : orp cp x 60 = orp cp x N := orp_ext d1 (fun b h1 _ => hxN b h1)
  cases hs : best (hvb sc h) x 60 with
  | none =>
    have := best_no hs y0 (by have := d3 y0 (hx y0 hy0); omega)
    rw [hy0] at this
    cases this
  | some s =>
    obtain ⟨⟨s1, s2, s3, s4⟩, hup, hmg, hbig⟩ := stl_pre (h := h) hD0 hx hr hs
    have hsc : ∀ b, b < 60 → tb (mgd (vp_updL cp r (stP cp x)) r s) b = true → cs b = nI (sc b) ∧ sc b ≤ 64 := fun b _ hb => d4 b (hmg b hb).1
    have hmN : ∀ b, N ≤ b → tb (mgd (vp_updL cp r (stP cp x)) r s) b = false := fun b hb => by
      cases t : tb (mgd (vp_updL cp r (stP cp x)) r s) b with
      | false => rfl
      | true => have := d3 b (hmg b t).1; omega
    obtain ⟨l, fso', h1, h2, h3, h4⟩ := e_sort (h := h) (f := fso) d1 hsc hmN
    have hlM : ∀ b ∈ l, tb M b = true := fun b hb => (hmg b ((h2.2 b).mp hb)).1
    have hss : tb (cp s) s = false := by
      cases t : tb (cp s) s with
      | false => rfl
      | true => have := (d5 s s s2 t).2; omega
    have hbs : tb (cb s) s = false := by
      cases t : tb (cb s) s with
      | false => rfl
      | true => rw [d6 s s s2 t] at hss; cases hss
    have hbM : ∀ y, tb (cb s) y = true → tb M y = true := fun y hy => (d5 s y s2 (d6 s y s2 hy)).1
    have hg0 : goodB (vp_updL cp r (stP cp x)) k (cb s ||| bi s) = true := by
      rw [good_congr (ps' := cp) (fun y hy => hup y (sub_add (by omega) s2 hbM y hy))]
      refine good_add s3 hbs (d7 s s2) (fun y hy => ?_)
      unfold ap
      rw [d6 s y s2 hy]
      simp
    refine ⟨s, l, bfold (vp_updL cp r (stP cp x)) k l (cb s ||| bi s), fso', ⟨hs, h2, rfl⟩, h3, ?_⟩
    unfold m_dg_settle
    rw [e_heaviest (sc := sc) d1 (fun b _ hb => d4 b (hx b hb)), mo_bs, ← hbe, hs, show oI (some s) = nI s from rfl, mo_wIn hr61 (by decide), mo_F (nI_nm1 (by omega)), e_pastOf d1, mo_bs, mo_wLn hr61 (by decide), ← hoe, show x ||| orp cp x 60 = stP cp x from rfl]
    show mo_rL cb 61 (nI s) _ = _
    rw [mo_rLn (by omega) (by decide), e_bit, mo_bs]
    show mo_bd (m_dg_mergedBy (upd csel r (nI s)) (vp_updL cp r (stP cp x)) (nI r)) _ = _
    rw [e_mergedBy hr61 (by omega) pk_us, mo_bs, h1, mo_bs]
    dsimp only
    rw [e_settleL64 d2 d1 d3 hlM (SL_nd h2) (fun a b ha hb => by rw [hup b hb]; exact hf a b ha hb) h3 (by omega) (sub_add (by omega) s2 hbM) hg0 (fun b hb => by
      obtain ⟨_, _, q1, q2⟩ := hmg b ((h2.2 b).mp hb)
      rw [tb_or, tb_bi (by omega), decide_eq_false q2, Bool.or_false]
      cases t : tb (cb s) b with
      | false => rfl
      | true => rw [d6 s b s2 t] at q1; cases q1), mo_bs, mo_wLn hr61 (by decide), e_bitCount, mo_bs, mo_wIn hr61 (by decide)]
theorem e_work {N k r : Nat} {M x : Int64} {sc : Nat → Nat} {h ms msel mm : Nat → Int32} {mp mb : Nat → Int64} (hD : DOK N k M sc ms mp mb) (hx : ∀ y, tb x y = true → tb M y = true) (hne : ∃ y, tb x y = true) (hr : tb M r = false) (hr61 : r < 61) : ∃ (s : Nat) (l : List Nat) (B : Int64) (mm' : Nat → Int32), STL sc h mp mb k r x s l B ∧ hL mm' l ∧ m_mm_work (nI k) mp ms h msel mb mm (nI r) x = some (vp_updL mp r (stP mp x), upd ms r (nI (cnt B 60)), upd msel r (nI s), vp_updL mb r B, mm') := by
  have hD0 := hD
  obtain ⟨d1, d2, d3, d4, d5, d6, d7⟩ := hD
  obtain ⟨y0, hy0⟩ := hne
  cases hs : best (hvb sc h) x 60 with
  | none =>
    have := best_no hs y0 (by have := d3 y0 (hx y0 hy0); omega)
    rw [hy0] at this
    cases this
  | some s =>
    obtain ⟨⟨s1, s2, s3, s4⟩, hup, hmg, hbig⟩ := stl_pre (h := h) hD0 hx hr hs
    have hsc : ∀ b, b < 60 → tb (mgd (vp_updL mp r (stP mp x)) r s) b = true → ms b = nI (sc b) ∧ sc b ≤ 64 := fun b _ hb => d4 b (hmg b hb).1
    have hmN : ∀ b, 60 ≤ b → tb (mgd (vp_updL mp r (stP mp x)) r s) b = false := fun b hb => by
      cases t : tb (mgd (vp_updL mp r (stP mp x)) r s) b with
      | false => rfl
      | true => have := d3 b (hmg b t).1; omega
    obtain ⟨l, mm', h1, h2, h3, h4⟩ := e_merge (fm := mm) (fsel := upd msel r (nI s)) (h := h) hr61 (by omega) pk_us hsc hmN
    have hc := cnt_le (mgd (vp_updL mp r (stP mp x)) r s) 60
    refine ⟨s, l, bfold (vp_updL mp r (stP mp x)) k l (mb s ||| bi s), mm', ⟨hs, h2, rfl⟩, h3, ?_⟩
    unfold m_mm_work
    rw [e_workL9 (sc := sc) (fun b _ hb => d4 b (hx b hb)), mo_bs]
    dsimp only
    rw [hs, show oI (some s) = nI s from rfl, mo_wLn hr61 (by decide), mo_wIn hr61 (by decide), mo_rLn (by omega) (by decide)]
    show mo_bd (m_mm_merge (vp_updL mp r (stP mp x)) (upd msel r (nI s)) ms h mm (nI r)) _ = _
    rw [h1, mo_bs]
    dsimp only
    show mo_bd (mo_lp (m_mm_work_L140 (nI k) (vp_updL mp r (stP mp x)) (nI l.length) mm') 1000 (mb s ||| bi s, 0)) _ = _
    rw [e_workL140 d2 h3 (by omega), mo_bs, mo_wLn hr61 (by decide), e_many, mo_bs, mo_wIn hr61 (by decide)]
    rfl
