theorem best_congr {lt lt' : Nat → Nat → Bool} {x : Int64} (h : ∀ a b, tb x a = true → tb x b = true → lt a b = lt' a b) : ∀ n, best lt x n = best lt' x n := by
  intro n
  induction n with
  | zero => rfl
  | succ n ih =>
    cases t : tb x n with
    | false => rw [best_f t, best_f t, ih]
    | true =>
      cases hb : best lt' x n with
      | none => rw [best_0 t hb, best_0 t (ih.trans hb)]
      | some r =>
        have e := h n r t (best_in hb).2
        cases q : lt' n r with
        | false => rw [best_2 t hb q, best_2 t (ih.trans hb) (e.trans q)]
        | true => rw [best_1 t hb q, best_1 t (ih.trans hb) (e.trans q)]
theorem hev_h {sc : Nat → Nat} {h h' : Nat → Int32} {a b : Nat} (ha : h a = h' a) (hb : h b = h' b) : hvb sc h a b = hvb sc h' a b := by
  unfold hvb hev ear
  rw [ha, hb]
theorem SL_h {sc : Nat → Nat} {h h' : Nat → Int32} {x : Int64} {l : List Nat} (e : ∀ y, tb x y = true → h y = h' y) (hs : SL sc h x l) : SL sc h' x l := by
  refine ⟨?_, hs.2⟩
  have h1 := hs.1
  have h2 : l.Pairwise (fun a b => a ∈ l ∧ b ∈ l ∧ bef sc h a b) := by
    rw [List.pairwise_iff_getElem] at h1 ⊢
    intro i j hi hj hij
    exact ⟨List.getElem_mem hi, List.getElem_mem hj, h1 i j hi hj hij⟩
  refine h2.imp (fun {a b} q => ?_)
  obtain ⟨q1, q2, q3⟩ := q
  have ea := e a ((hs.2 a).mp q1)
  have eb := e b ((hs.2 b).mp q2)
  unfold bef ear at q3 ⊢
  rw [← ea, ← eb]
  exact q3
theorem stl_h {N k r s : Nat} {M x B : Int64} {sc : Nat → Nat} {h h' cs : Nat → Int32} {cp cb : Nat → Int64} {l : List Nat} (hD : DOK N k M sc cs cp cb) (hx : ∀ y, tb x y = true → tb M y = true) (hr : tb M r = false) (e : ∀ y, tb M y = true → h y = h' y) (hS : STL sc h cp cb k r x s l B) : STL sc h' cp cb k r x s l B := by
  obtain ⟨hs, hl, rfl⟩ := hS
  obtain ⟨-, -, hmg, -⟩ := stl_pre (h := h) hD hx hr hs
  refine ⟨?_, SL_h (fun y hy => e y (hmg y hy).1) hl, rfl⟩
  rw [← hs]
  exact (best_congr (fun a b ha hb => hev_h (e a (hx a ha)) (e b (hx b hb))) 60).symm
theorem so_mem {l : List Nat} (hl : ∀ b ∈ l, b < 64) (y : Nat) : tb (so l 0) y = true ↔ y ∈ l := by
  rw [tb_so l 0 y hl, tb_0]
  exact ⟨fun q => q.elim (fun w => by cases w) id, Or.inr⟩
theorem dr_attach {N k b : Nat} {P : Nat → List Nat} {M tips : Int64} {sc : Nat → Nat} {cs csel ms msel h mh fpc fpar mpc mpar fso mm : Nat → Int32} {cp cb cf mp mb : Nat → Int64} (hR : DR N k P M tips sc cs csel cp cb cf ms msel mp mb) (hBc : BP 4 N P fpc fpar) (hBm : BP 4 N P mpc mpar) (hh : ∀ y, y < N → mh y = h y) (hb : b < N) (hbM : tb M b = false) (hPb : P b ≠ []) (hPM : ∀ p ∈ P b, tb M p = true ∧ p < b) :
    ∃ (tips' : Int64) (sc' : Nat → Nat) (cs' csel' ms' msel' fso' mm' : Nat → Int32) (cp' cb' cf' mp' mb' : Nat → Int64), m_dg_attach (nI k) M tips (nI N) fpc fpar cs h csel cp cb fso cf (nI b) = some (M ||| bi b, tips', cs', csel', cp', cb', fso', cf') ∧ m_mm_enter (nI k) M mpc mpar mp ms mh msel mb mm (nI b) = some (M ||| bi b, mp', ms', msel', mb', mm') ∧ DR N k P (M ||| bi b) tips' sc' cs' csel' cp' cb' cf' ms' msel' mp' mb' := by
  obtain ⟨hD, ha, hf, hf0, hfM, ht, hp, hpc, hsel, hs0, h0, hP0⟩ := hR
  have hD0 := hD
  obtain ⟨d1, d2, d3, d4, d5, d6, d7⟩ := hD
  have hl64 : ∀ p ∈ P b, p < 64 := fun p hp2 => by have := (hPM p hp2).2; omega
  have hx : ∀ y, tb (so (P b) 0) y = true → tb M y = true := fun y hy => (hPM y ((so_mem hl64 y).mp hy)).1
  have hne : ∃ y, tb (so (P b) 0) y = true := by
    cases hq : P b with
    | nil => exact absurd hq hPb
    | cons p l => exact ⟨p, by rw [← hq]; exact (so_mem hl64 p).mpr (by rw [hq]; exact List.mem_cons_self)⟩
  have hDm : DOK N k M sc ms mp mb := dok_m hD0 (fun y hy => ⟨(ha y hy).1, (ha y hy).2.2.1, (ha y hy).2.2.2⟩)
  obtain ⟨s, l, B, fso', S1, -, E1⟩ := e_settle (h := h) (csel := csel) (fso := fso) hD0 hf hx hne hbM (by omega)
  obtain ⟨s', l', B', mm', S2, -, E2⟩ := e_work (h := mh) (msel := msel) (mm := mm) hDm hx hne hbM (by omega)
  have S2' := stl_h hDm hx hbM (fun y hy => hh y (d3 y hy)) S2
  obtain ⟨rfl, rfl, rfl, eP⟩ := stl_same hD0 hx hbM (fun y hy => (ha y hy).2.2.1) (fun y hy => (ha y hy).2.2.2) S1 S2'
  obtain ⟨cf', E3, hcf⟩ := e_attachL18 (N := N) (b := b) (p := vp_updL cp b (stP cp (so (P b) 0))) (cf := cf) d1 (by omega)
  obtain ⟨B1, B2⟩ := stl_blue hD0 hx hbM S1
  have hPs := stP_sub hD0 hx
  have hB64 : cnt B' 64 = cnt B' 60 := cnt_more (by decide) (fun y h1 h2 => by
    cases t : tb B' y with
    | false => rfl
    | true => have := d3 y (hPs y (B1 y t)); omega)
  obtain ⟨⟨s1, s2, s3, s4⟩, hup, hmg, hbig⟩ := stl_pre (h := h) hD0 hx hbM S1.1
  have hM' : ∀ y, tb (M ||| bi b) y = true ↔ (tb M y = true ∨ y = b) := fun y => by rw [tb_or, tb_bi (by omega), Bool.or_eq_true, decide_eq_true_iff]
  have hMb : ∀ y, tb M y = true → y ≠ b := fun y hy w => by rw [w, hbM] at hy; cases hy
  have hPb2 : ∀ y, tb (stP cp (so (P b) 0)) y = true ↔ ∃ p ∈ P b, y = p ∨ tb (cp p) y = true := by
    intro y
    unfold stP
    rw [tb_or, Bool.or_eq_true, tb_orp, so_mem hl64]
    constructor
    · rintro (q | ⟨p, _, q1, q2⟩)
      · exact ⟨y, q, Or.inl rfl⟩
      · exact ⟨p, (so_mem hl64 p).mp q1, Or.inr q2⟩
    · rintro ⟨p, q1, q2 | q2⟩
      · rw [q2]; exact Or.inl q1
      · have := (hPM p q1).2
        exact Or.inr ⟨p, by omega, (so_mem hl64 p).mpr q1, q2⟩
  refine ⟨(tips &&& (so (P b) 0 ^^^ (-1))) ||| bi b, fun y => if y = b then cnt B' 60 else sc y, upd cs b (nI (cnt B' 64)), upd csel b (nI s'), upd ms b (nI (cnt B' 60)), upd msel b (nI s'), fso', mm', vp_updL cp b (stP cp (so (P b) 0)), vp_updL cb b B', cf', vp_updL mp b (stP mp (so (P b) 0)), vp_updL mb b B', ?_, ?_, ?_⟩
  · unfold m_dg_attach
    rw [e_parentSet hBc d1 hb, mo_bs, E1, mo_bs]
    dsimp only
    rw [E3, mo_bs, e_bit, mo_bs, mo_bs]
  · unfold m_mm_enter
    rw [e_enterL5 hBm d1 hb, mo_bs, E2, mo_bs]
    rfl
  · refine ⟨⟨d1, d2, fun y hy => ?_, fun y hy => ?_, fun y z hy hz => ?_, fun y z hy hz => ?_, fun y hy => ?_⟩, fun y hy => ?_, fun x y hx2 hy => ?_, fun x hx60 hxM => ?_, fun x y hxM hy => ?_, fun y => ?_, fun c hc p hpc2 => ?_, fun c y hc => ?_, fun c hc hc0 => ?_, ?_, ?_, hP0⟩
    · rcases (hM' y).mp hy with q | q
      · exact d3 y q
      · rw [q]; exact hb
    · rcases (hM' y).mp hy with q | q
      · rw [pk_un (hMb y q)]
        show cs y = nI (if y = b then _ else _) ∧ (if y = b then _ else _) ≤ 64
        rw [if_neg (hMb y q)]
        exact d4 y q
      · subst q
        rw [pk_us, hB64]
        show nI (cnt B' 60) = nI (if y = y then _ else _) ∧ (if y = y then _ else _) ≤ 64
        rw [if_pos rfl]
        have := cnt_le B' 60
        exact ⟨rfl, by omega⟩
    · rcases (hM' y).mp hy with q | q
      · rw [pk_uLn (hMb y q)] at hz
        obtain ⟨w1, w2⟩ := d5 y z q hz
        exact ⟨(hM' z).mpr (Or.inl w1), w2⟩
      · subst q
        rw [pk_uLs] at hz
        refine ⟨(hM' z).mpr (Or.inl (hPs z hz)), ?_⟩
        obtain ⟨p, w1, w2⟩ := (hPb2 z).mp hz
        obtain ⟨w3, w4⟩ := hPM p w1
        rcases w2 with w2 | w2
        · omega
        · have := (d5 p z w3 w2).2; omega
    · rcases (hM' y).mp hy with q | q
      · rw [pk_uLn (hMb y q)] at hz ⊢
        exact d6 y z q hz
      · subst q
        rw [pk_uLs] at hz ⊢
        exact B1 z hz
    · rcases (hM' y).mp hy with q | q
      · rw [pk_uLn (hMb y q), good_congr (ps' := cp) (fun z hz => hup z (d5 y z q (d6 y z q hz)).1)]
        exact d7 y q
      · subst q
        rw [pk_uLs]
        exact B2
    · rcases (hM' y).mp hy with q | q
      · rw [pk_un (hMb y q), pk_un (hMb y q), pk_un (hMb y q), pk_un (hMb y q), pk_uLn (hMb y q), pk_uLn (hMb y q), pk_uLn (hMb y q), pk_uLn (hMb y q)]
        exact ha y q
      · subst q
        rw [pk_us, pk_us, pk_us, pk_us, pk_uLs, pk_uLs, pk_uLs, pk_uLs, hB64, eP]
        exact ⟨rfl, rfl, rfl, rfl⟩
    · rw [hcf x, pk_uLs]
      rcases (hM' x).mp hx2 with q | q
      · rcases (hM' y).mp hy with w | w
        · rw [pk_uLn (hMb y w)]
          by_cases z : x < N ∧ tb (stP cp (so (P b) 0)) x = true
          · rw [if_pos z, tb_or, tb_bi (by omega), decide_eq_false (hMb y w), Bool.or_false]
            exact hf x y q w
          · rw [if_neg z]
            exact hf x y q w
        · subst w
          rw [pk_uLs]
          by_cases z : x < N ∧ tb (stP cp (so (P y) 0)) x = true
          · rw [if_pos z, tb_or, tb_bi (by omega), decide_eq_true rfl, Bool.or_true, z.2]
          · rw [if_neg z]
            cases t : tb (stP cp (so (P y) 0)) x with
            | true => exact absurd ⟨d3 x q, t⟩ z
            | false =>
              cases t2 : tb (cf x) y with
              | false => rfl
              | true => rw [hfM x y q t2] at hbM; cases hbM
      · subst q
        rw [if_neg (fun w => by rw [hPs x w.2] at hbM; cases hbM), hf0 x (by omega) hbM, tb_0]
        rcases (hM' y).mp hy with w | w
        · rw [pk_uLn (hMb y w)]
          cases t : tb (cp y) x with
          | false => rfl
          | true => rw [(d5 y x w t).1] at hbM; cases hbM
        · rw [w, pk_uLs]
          cases t : tb (stP cp (so (P x) 0)) x with
          | false => rfl
          | true => rw [hPs x t] at hbM; cases hbM
    · have hxM2 : tb M x = false := by
        cases t : tb M x with
        | false => rfl
        | true => rw [(hM' x).mpr (Or.inl t)] at hxM; cases hxM
      rw [hcf x, pk_uLs, if_neg (fun w => by rw [hPs x w.2] at hxM2; cases hxM2)]
      exact hf0 x hx60 hxM2
    · rw [hcf x, pk_uLs] at hy
      rcases (hM' x).mp hxM with q | q
      · by_cases z : x < N ∧ tb (stP cp (so (P b) 0)) x = true
        · rw [if_pos z, tb_or, tb_bi (by omega), Bool.or_eq_true, decide_eq_true_iff] at hy
          rcases hy with w | w
          · exact (hM' y).mpr (Or.inl (hfM x y q w))
          · exact (hM' y).mpr (Or.inr w)
        · rw [if_neg z] at hy
          exact (hM' y).mpr (Or.inl (hfM x y q hy))
      · subst q
        rw [if_neg (fun w => by rw [hPs x w.2] at hbM; cases hbM), hf0 x (by omega) hbM, tb_0] at hy
        cases hy
    · by_cases hy64 : y < 64
      · rw [tb_or, tb_and, tb_not _ hy64, tb_bi (by omega), Bool.or_eq_true, Bool.and_eq_true, decide_eq_true_iff, ht, Bool.not_eq_true', ← Bool.not_eq_true, so_mem hl64, hM']
        constructor
        · rintro (⟨⟨q1, q2⟩, q3⟩ | q)
          · refine ⟨Or.inl q1, fun c hc => ?_⟩
            rcases (hM' c).mp hc with w | w
            · exact q2 c w
            · rw [w]; exact q3
          · subst q
            refine ⟨Or.inr rfl, fun c hc hin => ?_⟩
            rcases (hM' c).mp hc with w | w
            · rw [(hp c w y hin).1] at hbM; cases hbM
            · rw [w] at hin
              have := (hPM y hin).2
              omega
        · rintro ⟨q1, q2⟩
          by_cases w : y = b
          · exact Or.inr w
          · have q1 : tb M y = true := q1.elim id (fun z => absurd z w)
            exact Or.inl ⟨⟨q1, fun c hc => q2 c ((hM' c).mpr (Or.inl hc))⟩, q2 b ((hM' b).mpr (Or.inr rfl))⟩
      · constructor
        · intro w; rw [tb_big (by omega)] at w; cases w
        · rintro ⟨w, -⟩; rw [tb_big (by omega)] at w; cases w
    · rcases (hM' c).mp hc with w | w
      · obtain ⟨w1, w2⟩ := hp c w p hpc2
        exact ⟨(hM' p).mpr (Or.inl w1), w2⟩
      · rw [w] at hpc2
        obtain ⟨w1, w2⟩ := hPM p hpc2
        exact ⟨(hM' p).mpr (Or.inl w1), by omega⟩
    · rcases (hM' c).mp hc with w | w
      · rw [pk_uLn (hMb c w), hpc c y w]
        constructor
        · rintro ⟨p, z1, z2⟩
          exact ⟨p, z1, z2.imp id (fun z => by rw [pk_uLn (hMb p (hp c w p z1).1)]; exact z)⟩
        · rintro ⟨p, z1, z2⟩
          exact ⟨p, z1, z2.imp id (fun z => by rw [pk_uLn (hMb p (hp c w p z1).1)] at z; exact z)⟩
      · subst w
        rw [pk_uLs, hPb2]
        constructor
        · rintro ⟨p, z1, z2⟩
          exact ⟨p, z1, z2.imp id (fun z => by rw [pk_uLn (hMb p (hPM p z1).1)]; exact z)⟩
        · rintro ⟨p, z1, z2⟩
          exact ⟨p, z1, z2.imp id (fun z => by rw [pk_uLn (hMb p (hPM p z1).1)] at z; exact z)⟩
    · rcases (hM' c).mp hc with w | w
      · rw [pk_un (hMb c w)]
        exact hsel c w hc0
      · subst w
        rw [pk_us]
        exact ⟨s', rfl, (so_mem hl64 s').mp s1⟩
    · rw [pk_un (hMb 0 h0)]
      exact hs0
    · exact (hM' 0).mpr (Or.inl h0)
