/-! the virtual row and the order on both sides -/
theorem CH_congr {M : Int64} {sc : Nat → Nat} {h h' sel sel' : Nat → Int32} {ps ps' : Nat → Int64} (hr : ∀ y, (tb M y = true ∨ y = 60) → ps y = ps' y ∧ sel y = sel' y) (hh : ∀ y, tb M y = true → h y = h' y) : ∀ n r L, (tb M r = true ∨ r = 60) → (∀ y ∈ L, tb M y = true) → CH sc h ps sel n r L → CH sc h' ps' sel' n r L := by
  intro n
  induction n with
  | zero => intro r L _ _ hc; exact hc
  | succ n ih =>
    intro r L hrM hLM hc
    rcases hc with q | ⟨s, l, L', r0, r61, s60, hsel, hl, hc, rfl⟩
    · exact Or.inl q
    · have hsM : tb M s = true := hLM s (List.mem_append_right _ List.mem_cons_self)
      have em : mgd ps r s = mgd ps' r s := by
        unfold mgd
        rw [(hr r hrM).1, (hr s (Or.inl hsM)).1]
      refine Or.inr ⟨s, l, L', r0, r61, s60, by rw [← (hr r hrM).2]; exact hsel, ?_, ih s L' (Or.inl hsM) (fun y hy => hLM y (List.mem_append_left _ hy)) hc, rfl⟩
      rw [← em]
      exact SL_h (fun y hy => hh y (hLM y (List.mem_append_right _ (List.mem_cons_of_mem _ ((hl.2 y).mpr hy))))) hl
theorem past_tr {M : Int64} {P : Nat → List Nat} {ps : Nat → Int64} (hp : ∀ b, tb M b = true → ∀ p ∈ P b, tb M p = true ∧ p < b) (hpc : ∀ b y, tb M b = true → (tb (ps b) y = true ↔ ∃ p ∈ P b, y = p ∨ tb (ps p) y = true)) : ∀ n p b y, p < n → tb M p = true → tb (ps p) b = true → tb (ps b) y = true → tb (ps p) y = true := by
  intro n
  induction n with
  | zero => intro p _ _ h; omega
  | succ n ih =>
    intro p b y hpn hpM h1 h2
    obtain ⟨q, q1, q2⟩ := (hpc p b hpM).mp h1
    obtain ⟨q3, q4⟩ := hp p hpM q q1
    rcases q2 with q2 | q2
    · subst q2
      exact (hpc p y hpM).mpr ⟨b, q1, Or.inr h2⟩
    · exact (hpc p y hpM).mpr ⟨q, q1, Or.inr (ih q b y (by omega) q3 q2 h2)⟩
theorem tips_all {N k : Nat} {P : Nat → List Nat} {M tips : Int64} {sc : Nat → Nat} {cs csel ms msel : Nat → Int32} {cp cb cf mp mb : Nat → Int64} (hR : DR N k P M tips sc cs csel cp cb cf ms msel mp mb) : stP cp tips = M := by
  obtain ⟨hD, ha, hf, hf0, hfM, ht, hp, hpc, hsel, hs0, h0, hP0⟩ := hR
  have hx : ∀ y, tb tips y = true → tb M y = true := fun y hy => ((ht y).mp hy).1
  have up : ∀ n y, 60 - y ≤ n → tb M y = true → tb (stP cp tips) y = true := by
    intro n
    induction n with
    | zero =>
      intro y hy hyM
      have := hD.2.2.1 y hyM
      have := hD.1
      omega
    | succ n ih =>
      intro y hy hyM
      by_cases q : tb tips y = true
      · unfold stP
        rw [tb_or, q, Bool.true_or]
      · have : ∃ b, tb M b = true ∧ y ∈ P b := by
          refine Classical.byContradiction (fun w => q ((ht y).mpr ⟨hyM, fun b hb hin => w ⟨b, hb, hin⟩⟩))
        obtain ⟨b, b1, b2⟩ := this
        have hb := (hp b b1 y b2).2
        have hb60 := hD.2.2.1 b b1
        have hN := hD.1
        have hby : tb (cp b) y = true := (hpc b y b1).mpr ⟨y, b2, Or.inl rfl⟩
        have hi := ih b (by omega) b1
        unfold stP at hi ⊢
        rw [tb_or, Bool.or_eq_true, tb_orp] at hi ⊢
        rcases hi with w | ⟨p, p1, p2, p3⟩
        · exact Or.inr ⟨b, by omega, w, hby⟩
        · exact Or.inr ⟨p, p1, p2, past_tr hp hpc 60 p b y p1 (hx p p2) p3 hby⟩
  refine tb_iff (fun y => ⟨stP_sub hD hx y, fun hy => up 60 y (by omega) hy⟩)
/-- what the virtual row and the order are behind a change, on both sides -/
def VR (M : Int64) (cs csel ms msel sq ord : Nat → Int32) (cb mb : Nat → Int64) (L : List Nat) : Prop := ms 60 = cs 60 ∧ msel 60 = csel 60 ∧ mb 60 = cb 60 ∧ hL sq L ∧ hL ord L ∧ L.length = cnt M 60 ∧ (∀ y, y ∈ L ↔ tb M y = true) ∧ L.Nodup
theorem dr_virtual {N k : Nat} {P : Nat → List Nat} {M tips : Int64} {sc : Nat → Nat} {cs csel ms msel h mh mpc mpar fso mm fsq ord : Nat → Int32} {cp cb cf mp mb : Nat → Int64} (places : Int32) (hR : DR N k P M tips sc cs csel cp cb cf ms msel mp mb) (hBm : BP 4 N P mpc mpar) (hh : ∀ y, y < N → mh y = h y) :
    ∃ (cs' csel' ms' msel' fso' mm' mm2 fsq' ord' : Nat → Int32) (cp' cb' mp' mb' : Nat → Int64) (L : List Nat), m_dg_settleVirtual (nI k) M tips (nI N) cs h csel cp cb fso cf fsq = some (cs', csel', cp', cb', fso', fsq') ∧ m_mm_tips (nI N) M mpc mpar = some tips ∧ m_mm_work (nI k) mp ms mh msel mb mm 60 tips = some (mp', ms', msel', mb', mm') ∧ m_mm_line M places msel' mp' ms' mh mm' ord = some (nI L.length, mm2, ord') ∧ DR N k P M tips sc cs' csel' cp' cb' cf ms' msel' mp' mb' ∧ VR M cs' csel' ms' msel' fsq' ord' cb' mb' L ∧ (∀ y, y ≠ 60 → cs' y = cs y ∧ csel' y = csel y ∧ cp' y = cp y ∧ cb' y = cb y) ∧ (∃ (s : Nat) (l : List Nat) (B : Int64), STL sc h cp cb k 60 tips s l B ∧ cs' 60 = nI (cnt B 60) ∧ csel' 60 = nI s ∧ cb' 60 = B ∧ cp' 60 = M) ∧ CH sc h cp' csel' 61 60 L := by
  have hR0 := hR
  obtain ⟨hD, ha, hf, hf0, hfM, ht, hp, hpc, hsel, hs0, h0, hP0⟩ := hR
  have hD0 := hD
  obtain ⟨d1, d2, d3, d4, d5, d6, d7⟩ := hD
  have hx : ∀ y, tb tips y = true → tb M y = true := fun y hy => ((ht y).mp hy).1
  have hall := tips_all hR0
  have hne : ∃ y, tb tips y = true := by
    have h1 : tb (stP cp tips) 0 = true := by rw [hall]; exact h0
    unfold stP at h1
    rw [tb_or, Bool.or_eq_true, tb_orp] at h1
    rcases h1 with q | ⟨p, _, q, _⟩
    · exact ⟨0, q⟩
    · exact ⟨p, q⟩
  have h60 : tb M 60 = false := by
    cases t : tb M 60 with
    | false => rfl
    | true => have := d3 60 t; omega
  have hDm : DOK N k M sc ms mp mb := dok_m hD0 (fun y hy => ⟨(ha y hy).1, (ha y hy).2.2.1, (ha y hy).2.2.2⟩)
  obtain ⟨s, l, B, fso1, S1, -, E1⟩ := e_settle (h := h) (csel := csel) (fso := fso) hD0 hf hx hne h60 (by decide)
  obtain ⟨s', l', B', mm', S2, -, E2⟩ := e_work (h := mh) (msel := msel) (mm := mm) hDm hx hne h60 (by decide)
  have S2' := stl_h hDm hx h60 (fun y hy => hh y (d3 y hy)) S2
  obtain ⟨rfl, rfl, rfl, eP⟩ := stl_same hD0 hx h60 (fun y hy => (ha y hy).2.2.1) (fun y hy => (ha y hy).2.2.2) S1 S2'
  obtain ⟨⟨s1, s2, s3, s4⟩, hup, hmg, hbig⟩ := stl_pre (h := h) hD0 hx h60 S1.1
  obtain ⟨B1, B2⟩ := stl_blue hD0 hx h60 S1
  have hB64 : cnt B' 64 = cnt B' 60 := cnt_more (by decide) (fun y h1 h2 => by
    cases t : tb B' y with
    | false => rfl
    | true => have := B1 y t; rw [hall] at this; have := d3 y this; omega)
  have hMne : ∀ y, tb M y = true → y ≠ 60 := fun y hy w => by rw [w, h60] at hy; cases hy
  -- the rows of the class behind it
  have hMs : ∀ y, tb M y = true → y < 60 ∧ upd cs 60 (nI (cnt B' 64)) y = nI (sc y) ∧ sc y ≤ 64 := fun y hy => by
    rw [pk_un (hMne y hy)]
    exact ⟨by have := d3 y hy; omega, d4 y hy⟩
  have hpc' : ∀ b y, tb M b = true → (tb (vp_updL cp 60 (stP cp tips) b) y = true ↔ ∃ p ∈ P b, y = p ∨ tb (vp_updL cp 60 (stP cp tips) p) y = true) := by
    intro b y hb
    rw [hup b hb, hpc b y hb]
    constructor
    · rintro ⟨p, q1, q2⟩
      exact ⟨p, q1, q2.imp id (fun z => by rw [hup p (hp b hb p q1).1]; exact z)⟩
    · rintro ⟨p, q1, q2⟩
      exact ⟨p, q1, q2.imp id (fun z => by rw [hup p (hp b hb p q1).1] at z; exact z)⟩
  have hps' : ∀ b y, tb M b = true → tb (vp_updL cp 60 (stP cp tips) b) y = true → tb M y = true ∧ y < b := fun b y hb hy => by
    rw [hup b hb] at hy
    exact d5 b y hb hy
  have hsel' : ∀ b, tb M b = true → b ≠ 0 → ∃ s, upd csel 60 (nI s') b = nI s ∧ s ∈ P b := fun b hb hb0 => by
    rw [pk_un (hMne b hb)]
    exact hsel b hb hb0
  obtain ⟨L', c1, c2, c3⟩ := ch_mem (cs := upd cs 60 (nI (cnt B' 64))) h hMs hp hpc' hps' hsel' hP0 60 s' s3 s2
  obtain ⟨L, c4, c5, c6⟩ := ch_step (cs := upd cs 60 (nI (cnt B' 64))) (r := 60) (n := 60) (by decide) (by decide) s3 (pk_us (f := csel) (k := 60) (x := nI s')) (by rw [pk_uLs, hall]; exact s2) (fun y hy => by
      rw [hup s' s2] at hy
      rw [pk_uLs, hall]
      exact (d5 s' y s2 hy).1) (by
      rw [hup s' s2]
      cases t : tb (cp s') s' with
      | false => rfl
      | true => have := (d5 s' s' s2 t).2; omega) (fun y hy => by rw [pk_uLs, hall]; exact hbig y hy) (fun b hb => by
      rw [pk_uLs, hall] at hb
      exact (hMs b hb).2) c1 c2 c3
  have c5' : ∀ y, y ∈ L ↔ tb M y = true := fun y => by rw [c5, pk_uLs, hall]
  have hlen : L.length = cnt M 60 := nodup_cnt 60 (by decide) c6 (fun y => by
    rw [c5']
    exact ⟨fun w => ⟨w, by have := d3 y w; omega⟩, fun w => w.1⟩)
  have hle := cnt_le M 60
  have hM64 : cnt M 64 = cnt M 60 := cnt_more (by decide) (fun y h1 _ => hbig y h1)
  have hpsM : ∀ r y, (tb M r = true ∨ r = 60) → tb (vp_updL cp 60 (stP cp tips) r) y = true → tb M y = true := fun r y hr hy => by
    rcases hr with q | q
    · exact (hps' r y q hy).1
    · rw [q, pk_uLs, hall] at hy
      exact hy
  obtain ⟨fso', fsq', F1, F2, -⟩ := e_svL20 (h := h) d1 (fun y hy => ⟨d3 y hy, (hMs y hy).2⟩) hpsM 61 60 L c4 (Or.inr rfl) (fun y hy => (c5' y).mp hy) 0 1000 fso1 fsq (by omega) (by omega)
  -- the reference's
  have cm : CH sc mh (vp_updL mp 60 (stP mp tips)) (upd msel 60 (nI s')) 61 60 L := CH_congr (M := M) (fun y hy => by
      rcases hy with q | q
      · rw [pk_uLn (hMne y q), pk_uLn (hMne y q), pk_un (hMne y q), pk_un (hMne y q), (ha y q).2.2.1, (ha y q).2.1]
        exact ⟨rfl, rfl⟩
      · rw [q, pk_uLs, pk_uLs, pk_us, pk_us, eP]
        exact ⟨rfl, rfl⟩) (fun y hy => (hh y (d3 y hy)).symm) 61 60 L (Or.inr rfl) (fun y hy => (c5' y).mp hy) c4
  obtain ⟨mm2, ord', G1, G2, -⟩ := e_lineL16 (M := M) (ms := upd ms 60 (nI (cnt B' 60))) (fun y hy => by
      rw [pk_un (hMne y hy), (ha y hy).1]
      exact ⟨by have := d3 y hy; omega, d4 y hy⟩) (by rw [pk_un (by decide), (ha 0 h0).2.1]; exact hs0) 61 60 L cm (fun y hy => (c5' y).mp hy) 1000 mm' ord (by omega) (by omega)
  obtain ⟨T, T1, T2⟩ := e_tips hBm d1 d3
  have eT : T = tips := tb_iff (fun y => (T2 y).trans (ht y).symm)
  refine ⟨upd cs 60 (nI (cnt B' 64)), upd csel 60 (nI s'), upd ms 60 (nI (cnt B' 60)), upd msel 60 (nI s'), fso', mm', mm2, fsq', ord', vp_updL cp 60 (stP cp tips), vp_updL cb 60 B', vp_updL mp 60 (stP mp tips), vp_updL mb 60 B', L, ?_, by rw [T1, eT], E2, ?_, ?_, ?_, fun y hy => ⟨pk_un hy, pk_un hy, pk_uLn hy, pk_uLn hy⟩, ⟨s', l', B', S1, by rw [pk_us, hB64], pk_us, pk_uLs, by rw [pk_uLs, hall]⟩, c4⟩
  · unfold m_dg_settleVirtual
    show mo_bd (m_dg_settle (nI k) M (nI N) cs h csel cp cb fso cf (nI 60) tips) _ = _
    rw [E1, mo_bs]
    dsimp only
    unfold m_dg_size
    rw [e_bitCount, mo_bs, mo_bs, hM64, ← hlen]
    show mo_bd (mo_lp (m_dg_settleVirtual_L20 (nI N) h _ _ _) 1000 (nI L.length, nI 60, nI 0, fso1, fsq)) _ = _
    rw [F1, mo_bs]
  · unfold m_mm_line
    rw [e_many, mo_bs, ← hlen]
    show mo_bd (mo_lp (m_mm_line_L16 _ _ _ mh) 1000 (nI L.length, nI 60, mm', ord)) _ = _
    rw [G1, mo_bs]
  · refine ⟨⟨d1, d2, d3, fun y hy => (hMs y hy).2, hps', fun y z hy hz => ?_, fun y hy => ?_⟩, fun y hy => ?_, fun x y hx2 hy => ?_, hf0, hfM, ht, hp, hpc', hsel', ?_, h0, hP0⟩
    · rw [pk_uLn (hMne y hy)] at hz ⊢
      exact d6 y z hy hz
    · rw [pk_uLn (hMne y hy), good_congr (ps' := cp) (fun z hz => hup z (d5 y z hy (d6 y z hy hz)).1)]
      exact d7 y hy
    · rw [pk_un (hMne y hy), pk_un (hMne y hy), pk_un (hMne y hy), pk_un (hMne y hy), pk_uLn (hMne y hy), pk_uLn (hMne y hy), pk_uLn (hMne y hy), pk_uLn (hMne y hy)]
      exact ha y hy
    · rw [hup y hy]
      exact hf x y hx2 hy
    · rw [pk_un (by decide)]
      exact hs0
  · refine ⟨by rw [pk_us, pk_us, hB64], by rw [pk_us, pk_us], by rw [pk_uLs, pk_uLs], F2, G2, hlen, c5', c6⟩
