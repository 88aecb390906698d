/-! the start: what the constructors make -/
theorem st_k (x : Int32) : ∃ k, k ≤ 60 ∧ (x &&& 255) - (x &&& 255) / 5 * 5 = nI k := by
  have h1 : x &&& 255 = nI (x.toBitVec.toNat % 2 ^ 8) := pk_and x 8 (by decide)
  have h2 : ∀ n, n < 256 → nI n - nI n / 5 * 5 = nI (n % 5) := by decide +kernel
  have h3 : x.toBitVec.toNat % 2 ^ 8 < 256 := Nat.mod_lt _ (by decide)
  refine ⟨x.toBitVec.toNat % 2 ^ 8 % 5, by omega, ?_⟩
  rw [h1, h2 _ h3]
theorem st_bi : (1 : Int64) = bi 0 := by decide
theorem st_tb (y : Nat) : tb 1 y = true ↔ y = 0 := by rw [st_bi, tb_bi (by decide), decide_eq_true_iff]
abbrev zI : Nat → Int32 := fun _ => 0
abbrev zL : Nat → Int64 := fun _ => 0
abbrev zN : Nat → Int32 := upd (fun _ => 0) 0 (-1)
abbrev eL : Nat → List Nat := fun _ => []
theorem st_BP (c : Nat) : BP c 1 eL zI zI := fun b _ => ⟨nI_0.symm, Nat.zero_le _, fun k x h => by cases h⟩
theorem st_attach (k : Nat) (h : Nat → Int32) : m_dg_attach (nI k) 0 0 1 zI zI zI h zI zL zL zI zL 0 = some (1, 1, zI, zN, zL, zL, zI, zL) := by
  have hp : m_bl_parentSet zI zI 0 = some 0 := e_parentSet (b := 0) (st_BP 4) (by decide) (by decide)
  have hh : m_dg_heaviest 1 zI h 0 = some (-1) := by
    have := e_heaviest (fs := zI) (h := h) (sc := fun _ => 0) (x := 0) (N := 1) (by decide) (fun b _ t => by rw [tb_0] at t; cases t)
    have b0 : best (hvb (fun _ => 0) h) 0 1 = none := best_f (n := 0) (tb_0 0)
    rw [b0] at this
    exact this
  obtain ⟨cf, c1, c2⟩ := e_attachL18 (N := 1) (b := 0) (p := zL) (cf := zL) (by decide) (by decide)
  have c3 : cf = zL := funext (fun j => by rw [c2 j, if_neg (fun w => by rw [tb_0] at w; cases w.2)])
  rw [c3] at c1
  have c1 : mo_lp (m_dg_attach_L18 1 0 zL) 1000 (0, zL) = some zL := c1
  have hs : m_dg_settle (nI k) 0 1 zI h zI zL zL zI zL 0 0 = some (zI, zN, zL, zL, zI) := by
    unfold m_dg_settle
    rw [hh, mo_bs]
    show mo_wI zI 61 (nI 0) (-1) _ = _
    rw [mo_wIn (by decide) (by decide)]
    exact mo_T rfl
  unfold m_dg_attach
  rw [hp, mo_bs, hs, mo_bs]
  dsimp only
  rw [c1, mo_bs]
  show (mo_bd (m_bm_bit (nI 0)) fun r70 => mo_bd (m_bm_bit (nI 0)) fun r89 => some ((0 : Int64) ||| r70, ((0 : Int64) &&& ((0 : Int64) ^^^ (-1))) ||| r89, zI, zN, zL, zL, zI, zL)) = _
  have e1 : (0 : Int64) ||| bi 0 = 1 := by decide
  have e2 : ((0 : Int64) &&& ((0 : Int64) ^^^ (-1))) ||| bi 0 = 1 := by decide
  rw [e_bit, mo_bs, mo_bs, e1, e2]
theorem z_tb (x y : Nat) : ¬ tb (zL x) y = true := by
  show ¬ tb 0 y = true
  rw [tb_0]
  exact Bool.false_ne_true
theorem st_DR {k : Nat} (hk : k ≤ 60) : DR 1 k eL 1 1 (fun _ => 0) zI zN zL zL zL zI zN zL zL := by
  have t0 : tb 1 0 = true := (st_tb 0).mpr rfl
  refine ⟨⟨by decide, hk, fun y hy => ?_, fun y hy => ⟨nI_0.symm, Nat.zero_le _⟩, fun y z hy hz => absurd hz (z_tb y z), fun y z hy hz => absurd hz (z_tb y z), fun y hy => pB_t (fun x _ h => absurd h (z_tb y x))⟩, fun y hy => ⟨rfl, rfl, rfl, rfl⟩, fun x y hx hy => (tb_0 y).trans (tb_0 x).symm, fun x hx h => rfl, fun x y hx h => absurd h (z_tb x y), fun y => ⟨fun h => ⟨h, fun b _ w => absurd w List.not_mem_nil⟩, fun h => h.1⟩, fun b hb p hp => absurd hp List.not_mem_nil, fun b y hb => ⟨fun w => absurd w (z_tb b y), fun ⟨p, w, _⟩ => absurd w List.not_mem_nil⟩, fun b hb h0 => absurd ((st_tb b).mp hb) h0, rfl, t0, rfl⟩
  rw [st_tb] at hy
  omega
theorem st_SD (h : Nat → Int32) : SD 0 1 (fun _ => []) (fun _ => []) eL eL h zI zI zI zI zI zI zI zI zI zI zI zI zI zI zI zI zI zI zI zI zI zI zI h :=
  ⟨fun t ht => absurd ht (Nat.not_lt_zero _), fun t ht => absurd ht (Nat.not_lt_zero _), ⟨by decide, by decide, fun t ht => absurd ht (Nat.not_lt_zero _)⟩, st_BP 4, st_BP 4, st_BP 3, st_BP 3, fun b _ t ht => absurd ht List.not_mem_nil, fun c _ => rfl, fun y _ => rfl⟩
theorem st_all {k : Nat} (hk : k ≤ 60) (h : Nat → Int32) : ∃ (cs csel fso sq lam aam ms msel mm ord macc free coin worth : Nat → Int32) (cp cb mp mb : Nat → Int64) (lacc aacc : Int64) (L : List Nat), m_bm_followDag (nI k) 1 1 1 zI h zN zL zL zI zL zI 0 zI zI zI zI zI zI zI zI zI zI 0 zI 0 zI = some (cs, csel, cp, cb, fso, sq, lacc, lam, aacc, aam, nI ([] : List Nat).length, zI) ∧ m_mm_look (nI k) 1 1 0 zI zI zL zI h zN zL zI zI zI zI zI zI zI zI zI zI zI zI zI zI zI zI = some (nI L.length, mp, ms, msel, mb, mm, ord, macc, free, coin, worth) ∧ FR 0 1 k (fun _ => []) (fun _ => []) eL eL 1 1 (fun _ => 0) [] h zI zI zI cs csel sq lam aam zI cp cb zL lacc aacc ms msel ord macc free coin worth zI mp mb L := by
  have hS := st_SD h
  have hR := st_DR hk
  obtain ⟨hX, hY, hV, hB4, hBm, hI, hIm, hIt, hlk, hh⟩ := hS
  obtain ⟨cs', csel', ms1, msel1, fso', mm1, mm2, fsq', ord1, cp', cb', mp1, mb1, L, h1, h2, h3, h4, h5, h6, h7⟩ := dr_virtual2 (h := h) (fso := zI) (mm := zI) (fsq := zI) (ord := zI) 0 hR hBm hh
  have h5' := h5
  have h6' := h6
  obtain ⟨hD, ha, _⟩ := h5
  obtain ⟨d1, d2, d3, d4, d5, d6, d7⟩ := hD
  obtain ⟨v1, v2, v3, v4, v5, v6, v7, v8⟩ := h6
  have hle := cnt_le 1 60
  have hLb : ∀ b ∈ L, b < 1 ∧ cs' b = nI ((fun _ => 0 : Nat → Nat) b) ∧ (fun _ => 0 : Nat → Nat) b ≤ 64 := fun b hb => ⟨d3 b ((v7 b).mp hb), d4 b ((v7 b).mp hb)⟩
  have hLbm : ∀ b ∈ L, b < 1 ∧ ms1 b = nI ((fun _ => 0 : Nat → Nat) b) ∧ (fun _ => 0 : Nat → Nat) b ≤ 64 := fun b hb => by
    rw [(ha b ((v7 b).mp hb)).1]
    exact hLb b hb
  have hM60 : ∀ y, 60 ≤ y → tb 1 y = false := fun y hy => by
    cases t : tb 1 y with
    | false => rfl
    | true => have := d3 y t; omega
  obtain ⟨u, a, am1, R1, R2, R3, R4⟩ := e_replay (acc0 := 0) (am := zI) (bl := zI) (cb := cb') hI hIt hX hV v4 v6 hM60 hLb v8
  have R4 : LV u a 0 1 3840 (fun _ => []) := LV_mono R4 (by omega)
  obtain ⟨u', a', m1, f1, c1, w1, E1, E2, E3⟩ := e_look (k := k) (macc := zI) (free := zI) (coin := zI) (worth := zI) (st_SD h) h2 h3 h4 v5 (by omega) hLbm v8 v3
  have eu : (u', a') = (u, a) := E2.symm.trans R2
  cases eu
  have hC2 : LC u (va_cpy am1 zI 0 0 140) := fun j hj => by
    rw [pk_cpy_in (Nat.zero_le _) (by omega), Nat.zero_add, Nat.sub_zero]
    exact R3 j hj
  refine ⟨cs', csel', fso', fsq', am1, va_cpy am1 zI 0 0 140, ms1, msel1, mm2, ord1, m1, f1, c1, w1, cp', cb', mp1, mb1, a, a, L, ?_, E1, h5', h6', h7, u, u, 0, R2, R3, E3, R4, rfl, hC2, R4, hL_nil _, hL_nil _, by decide, fun t ht => absurd ht List.not_mem_nil⟩
  unfold m_bm_followDag
  have h1 : m_dg_settleVirtual (nI k) 1 1 1 zI h zN zL zL zI zL zI = some (cs', csel', cp', cb', fso', fsq') := h1
  rw [h1, mo_bs]
  dsimp only
  rw [R1, mo_bs]
  dsimp only
  unfold m_le_copyFrom
  show mo_bd (mo_cp am1 140 zI 140 0 (nI 0) (nI 140) _) _ = _
  rw [e_cp (by decide) (by decide) (by decide) (by decide), mo_bs]
  dsimp only
  have Q2 : mo_lp (m_bm_followDag_L41 zI zI zI zI zI zI zI 0) 1000 (0, 0, a, va_cpy am1 zI 0 0 140, 0, zI) = some (a, va_cpy am1 zI 0 0 140, 0, zI) := by
    show m_bm_followDag_L41 zI zI zI zI zI zI zI 0 (mo_lp (m_bm_followDag_L41 zI zI zI zI zI zI zI 0) 999) (0, 0, a, va_cpy am1 zI 0 0 140, 0, zI) = _
    unfold m_bm_followDag_L41
    dsimp only
    rw [mo_T (by decide)]
  rw [Q2]
  rfl
theorem st_RG {k : Nat} (hk : k ≤ 60) (h : Nat → Int32) : ∃ (cs : Nat → Int32) (csel : Nat → Int32) (sq : Nat → Int32) (lam : Nat → Int32) (aam : Nat → Int32) (ms : Nat → Int32) (msel : Nat → Int32) (mm : Nat → Int32) (ord : Nat → Int32) (macc : Nat → Int32) (free : Nat → Int32) (coin : Nat → Int32) (worth : Nat → Int32) (cp : Nat → Int64) (cb : Nat → Int64) (mp : Nat → Int64) (mb : Nat → Int64) (lacc : Int64) (aacc : Int64) (L : List Nat) (fso : Nat → Int32), m_bm_followDag (nI k) 1 1 1 zI h zN zL zL zI zL zI 0 zI zI zI zI zI zI zI zI zI zI 0 zI 0 zI = some (cs, csel, cp, cb, fso, sq, lacc, lam, aacc, aam, nI ([] : List Nat).length, zI) ∧ m_mm_look (nI k) 1 1 0 zI zI zL zI h zN zL zI zI zI zI zI zI zI zI zI zI zI zI zI zI zI zI = some (nI L.length, mp, ms, msel, mb, mm, ord, macc, free, coin, worth) ∧ RG 0 1 k (fun _ => []) (fun _ => []) eL eL (fun _ => 0) ([]) L ([]) ([]) ([]) ([]) ([]) 1 1 lacc aacc zI zI zI zI zI zI zI zI zI zI zI zI zI zI zI h zI zI cp zL cb cs csel sq zI lam aam zI zI zI zI zI zI zI zI zI zI zI zI zI zI h mp mb ms msel zI zI ord macc free coin worth := by
  obtain ⟨cs, csel, fso, sq, lam, aam, ms, msel, mm, ord, macc, free, coin, worth, cp, cb, mp, mb, lacc, aacc, L, h1, h2, h3⟩ := st_all hk h
  refine ⟨cs, csel, sq, lam, aam, ms, msel, mm, ord, macc, free, coin, worth, cp, cb, mp, mb, lacc, aacc, L, fso, h1, h2, st_SD h, ?_, ?_, ?_, ?_, h3⟩
  · exact fun b hb => ⟨fun p hp => absurd hp List.not_mem_nil, fun h0 => absurd (by omega) h0⟩
  · exact ⟨fun t ht => absurd ht (Nat.not_lt_zero _), by decide, by decide, nI_0.symm, nI_0.symm, nI_0.symm, nI_0.symm, fun j s i c h => (by cases h), fun j lk a h => (by cases h), fun t _ _ => ⟨rfl, rfl⟩⟩
  · exact ⟨by decide, by decide, fun x hx => absurd hx List.not_mem_nil, fun x hx => absurd hx List.not_mem_nil, hL_nil _, hL_nil _, nI_0.symm, fun j x h => (by cases h), nI_0.symm, fun j x h => (by cases h)⟩
  · exact ⟨hL_nil _, hL_nil _, by decide, fun b hb => absurd hb List.not_mem_nil, List.nodup_nil⟩
