/-! followDag (the class), settle and look (the reference) -/
def SD (nT nB : Nat) (ins : Nat → List (Nat × Nat × Int32)) (outs : Nat → List (Int32 × Nat)) (P I : Nat → List Nat) (h bl ic islot ilock oc olock oamt fpc fpar fic fi inp src idx sec outp lock amt mpc mpar hol held mbl mh : Nat → Int32) : Prop := TX nT ins outs ic islot ilock oc olock oamt ∧ TM nT ins outs inp src idx sec outp lock amt ∧ TV nT nB ins outs ∧ BP 4 nB P fpc fpar ∧ BP 4 nB P mpc mpar ∧ BP 3 nB I fic fi ∧ BP 3 nB I hol held ∧ (∀ b, b < nB → ∀ t ∈ I b, t < nT) ∧ (∀ c, c < nB → mbl c = bl c) ∧ ∀ y, y < nB → mh y = h y
theorem flt_idem {ins : Nat → List (Nat × Nat × Int32)} {outs : Nat → List (Int32 × Nat)} {ol bl : Nat → Int32} : ∀ (l : List Nat) (z : (Nat → Option Nat) × Int64 × Nat), flt ins outs ol bl (flt ins outs ol bl l z).1 z = flt ins outs ol bl l z := by
  intro l
  induction l with
  | nil => intro z; rfl
  | cons t l ih =>
    intro z
    by_cases q : okT z.1 z.2.1 ol bl (ins t) (outs t) t
    · rw [flt_t q]
      show flt ins outs ol bl (t :: (flt ins outs ol bl l (run1 ins outs ol bl t z)).1) z = _
      rw [flt_t q, ih]
    · rw [flt_f q]
      exact ih z
theorem flt_sub {ins : Nat → List (Nat × Nat × Int32)} {outs : Nat → List (Int32 × Nat)} {ol bl : Nat → Int32} : ∀ (l : List Nat) (z : (Nat → Option Nat) × Int64 × Nat), (∀ t ∈ (flt ins outs ol bl l z).1, t ∈ l) ∧ (flt ins outs ol bl l z).1.length ≤ l.length := by
  intro l
  induction l with
  | nil => intro z; exact ⟨fun t h => h, Nat.le_refl _⟩
  | cons t l ih =>
    intro z
    by_cases q : okT z.1 z.2.1 ol bl (ins t) (outs t) t
    · rw [flt_t q]
      obtain ⟨h1, h2⟩ := ih (run1 ins outs ol bl t z)
      refine ⟨fun s hs => ?_, by rw [List.length_cons, List.length_cons]; omega⟩
      rcases List.mem_cons.mp hs with w | w
      · rw [w]; exact List.mem_cons_self
      · exact List.mem_cons_of_mem _ (h1 s w)
    · rw [flt_f q]
      obtain ⟨h1, h2⟩ := ih z
      exact ⟨fun s hs => List.mem_cons_of_mem _ (h1 s hs), by rw [List.length_cons]; omega⟩
theorem e_look {nT nB k : Nat} {ins : Nat → List (Nat × Nat × Int32)} {outs : Nat → List (Int32 × Nat)} {P I : Nat → List Nat} {h bl ic islot ilock oc olock oamt fpc fpar fic fi inp src idx sec outp lock amt mpc mpar hol held mbl mh : Nat → Int32} {M tips B : Int64} {sc : Nat → Nat} {ms msel mm ord macc free coin worth ms' msel' mm' mm2 ord' : Nat → Int32} {mp mb mp' mb' : Nat → Int64} {places : Int32} {L : List Nat} (hS : SD nT nB ins outs P I h bl ic islot ilock oc olock oamt fpc fpar fic fi inp src idx sec outp lock amt mpc mpar hol held mbl mh) (h2 : m_mm_tips (nI nB) M mpc mpar = some tips) (h3 : m_mm_work (nI k) mp ms mh msel mb mm 60 tips = some (mp', ms', msel', mb', mm')) (h4 : m_mm_line M places msel' mp' ms' mh mm' ord = some (nI L.length, mm2, ord')) (hord : hL ord' L) (hlen : L.length ≤ 60) (hLb : ∀ b ∈ L, b < nB ∧ ms' b = nI (sc b) ∧ sc b ≤ 64) (hnd : L.Nodup) (hmb : mb' 60 = B) : ∃ (u : Nat → Option Nat) (a : Int64) (macc' free' coin' worth' : Nat → Int32), m_mm_look (nI k) (nI nB) M places mpc mpar mp ms mh msel mb mm ord macc free coin hol held inp src idx lock mbl sec amt worth outp = some (nI L.length, mp', ms', msel', mb', mm2, ord', macc', free', coin', worth') ∧ runB ins outs olock bl I B sc L (u00, 0) = (u, a) ∧ LM u a amt free' coin' worth' macc' := by
  obtain ⟨hX, hY, hV, hB4, hBm, hI, hIm, hIt, hlk, hh⟩ := hS
  obtain ⟨g1, G1, G1'⟩ := e_lookL16 macc
  obtain ⟨g2, G2, G2'⟩ := e_lookL37 free
  obtain ⟨g3, G3, G3'⟩ := e_lookL58 coin
  obtain ⟨u, a, m', f', c', w', E1, E2, E3⟩ := e_lookL79 (bl := bl) (worth := worth) hIm hIt hX hY hV hord hlen hLb hnd hlk hmb G1' G2' G3'
  refine ⟨u, a, m', f', c', w', ?_, E2, E3⟩
  unfold m_mm_look
  rw [h2, mo_bs, h3, mo_bs]
  dsimp only
  rw [h4, mo_bs]
  dsimp only
  rw [G1, mo_bs, G2, mo_bs, G3, mo_bs, E1, mo_bs]
/-- everything that follows the DAG, on both sides: the virtual row, the order, the ledger, the pool -/
def FR (nT nB k : Nat) (ins : Nat → List (Nat × Nat × Int32)) (outs : Nat → List (Int32 × Nat)) (P I : Nat → List Nat) (M tips : Int64) (sc : Nat → Nat) (p : List Nat) (h bl olock amt cs csel sq lam aam held : Nat → Int32) (cp cb cf : Nat → Int64) (lacc aacc : Int64) (ms msel ord macc free coin worth mpool : Nat → Int32) (mp mb : Nat → Int64) (L : List Nat) : Prop :=
  DR nB k P M tips sc cs csel cp cb cf ms msel mp mb ∧ VR M cs csel ms msel sq ord cb mb L ∧ F60 k M tips sc h cs csel cp cb L ∧ ∃ (u : Nat → Option Nat) (u2 : Nat → Option Nat) (F2 : Nat), runB ins outs olock bl I (cb 60) sc L (u00, 0) = (u, lacc) ∧ LC u lam ∧ LM u lacc amt free coin worth macc ∧ LV u lacc nT nB 3840 outs ∧ flt ins outs olock bl p (u, lacc, 0) = (p, u2, aacc, F2) ∧ LC u2 aam ∧ LV u2 aacc nT nB 3840 outs ∧ hL held p ∧ hL mpool p ∧ p.length ≤ 8 ∧ ∀ t ∈ p, t < nT
theorem follow {nT nB k : Nat} {ins : Nat → List (Nat × Nat × Int32)} {outs : Nat → List (Int32 × Nat)} {P I : Nat → List Nat} {h bl ic islot ilock oc olock oamt fpc fpar fic fi inp src idx sec outp lock amt mpc mpar hol held mbl mh : Nat → Int32} {M tips : Int64} {sc : Nat → Nat} {cs csel fso fsq lam aam held8 ms msel mm ord macc free coin worth mpool : Nat → Int32} {cp cb cf mp mb : Nat → Int64} {lacc aacc : Int64} {places : Int32} {p : List Nat} (hS : SD nT nB ins outs P I h bl ic islot ilock oc olock oamt fpc fpar fic fi inp src idx sec outp lock amt mpc mpar hol held mbl mh) (hR : DR nB k P M tips sc cs csel cp cb cf ms msel mp mb) (hp1 : hL held8 p) (hp2 : hL mpool p) (hp8 : p.length ≤ 8) (hpt : ∀ t ∈ p, t < nT) :
    ∃ (cs' csel' fso' fsq' lam' aam' held' ms1 msel1 mm1 ord1 macc1 free1 coin1 worth1 mpool' ms' msel' mm' ord' macc' free' coin' worth' : Nat → Int32) (cp' cb' mp1 mb1 mp' mb' : Nat → Int64) (lacc' aacc' : Int64) (K L : List Nat),
      m_bm_followDag (nI k) M tips (nI nB) cs h csel cp cb fso cf fsq lacc lam fic fi ic islot olock bl ilock oc oamt aacc aam (nI p.length) held8 = some (cs', csel', cp', cb', fso', fsq', lacc', lam', aacc', aam', nI K.length, held') ∧
      m_mm_settle (nI k) (nI nB) M (nI p.length) places mpc mpar mp ms mh msel mb mm ord macc free coin hol held inp src idx lock mbl sec amt worth outp mpool = some (nI K.length, nI L.length, mp1, ms1, msel1, mb1, mm1, ord1, macc1, free1, coin1, worth1, mpool') ∧
      m_mm_look (nI k) (nI nB) M (nI L.length) mpc mpar mp1 ms1 mh msel1 mb1 mm1 ord1 macc1 free1 coin1 hol held inp src idx lock mbl sec amt worth1 outp = some (nI L.length, mp', ms', msel', mb', mm', ord', macc', free', coin', worth') ∧
      FR nT nB k ins outs P I M tips sc K h bl olock amt cs' csel' fsq' lam' aam' held' cp' cb' cf lacc' aacc' ms' msel' ord' macc' free' coin' worth' mpool' mp' mb' L ∧ (∀ t ∈ K, t ∈ p) := by
  have hS0 := hS
  obtain ⟨hX, hY, hV, hB4, hBm, hI, hIm, hIt, hlk, hh⟩ := hS
  obtain ⟨cs', csel', ms1, msel1, fso', mm1, mm2, fsq', ord1, cp', cb', mp1, mb1, L, h1, h2, h3, h4, h5, h6, h7⟩ := dr_virtual2 (h := h) (fso := fso) (mm := mm) (fsq := fsq) (ord := ord) places hR hBm hh
  have h5' := h5
  obtain ⟨hD, ha, _⟩ := h5
  obtain ⟨d1, d2, d3, d4, d5, d6, d7⟩ := hD
  obtain ⟨v1, v2, v3, v4, v5, v6, v7, v8⟩ := h6
  have hle := cnt_le M 60
  have hLb : ∀ b ∈ L, b < nB ∧ cs' b = nI (sc b) ∧ sc b ≤ 64 := fun b hb => ⟨d3 b ((v7 b).mp hb), d4 b ((v7 b).mp hb)⟩
  have hLbm : ∀ b ∈ L, b < nB ∧ ms1 b = nI (sc b) ∧ sc b ≤ 64 := fun b hb => by
    rw [(ha b ((v7 b).mp hb)).1]
    exact hLb b hb
  have hM60 : ∀ y, 60 ≤ y → tb M y = false := fun y hy => by
    cases t : tb M y with
    | false => rfl
    | true => have := d3 y t; omega
  obtain ⟨u, a, am1, R1, R2, R3, R4⟩ := e_replay (acc0 := lacc) (am := lam) (bl := bl) (cb := cb') hI hIt hX hV v4 v6 hM60 hLb v8
  have R4 : LV u a nT nB 3840 outs := LV_mono R4 (by omega)
  obtain ⟨u', a', m1, f1, c1, w1, E1, E2, E3⟩ := e_look (k := k) (macc := macc) (free := free) (coin := coin) (worth := worth) hS0 h2 h3 h4 v5 (by omega) hLbm v8 v3
  have eu : (u', a') = (u, a) := E2.symm.trans R2
  cases eu
  -- the pool, ahead
  have hC2 : LC u (va_cpy am1 aam 0 0 140) := fun j hj => by
    rw [pk_cpy_in (Nat.zero_le _) (by omega), Nat.zero_add, Nat.sub_zero]
    exact R3 j hj
  obtain ⟨u2, a2, F2, K, aam', held', Q1, Q2, Q3, Q4, Q5, Q6⟩ := e_followL41 (W := 3840) (bl := bl) (p0 := p.length) hX hV (by decide) hp8 p [] u a 0 1000 (va_cpy am1 aam 0 0 140) held8 hpt (by simp; omega) (Nat.le_refl _) hC2 R4 (Nat.zero_le _) hp1 (by omega)
  obtain ⟨u3, a3, F3, K', m2, f2, c2, mpool', N1, N2, N3, N4⟩ := e_settleL8 (W := 3840) (bl := bl) (p0 := p.length) hX hY hV (by decide) hlk hp8 p [] u a 0 1000 m1 f1 c1 mpool hpt (by simp) E3 R4 (Nat.zero_le _) (hL_nil _) (fun i t ht => by
    rw [Nat.sub_self, Nat.zero_add]
    exact hp2 i t ht) (by omega)
  have ek : (K', u3, a3, F3) = (K, u2, a2, F2) := N1.symm.trans Q1
  cases ek
  obtain ⟨k1, k2⟩ := flt_sub (ins := ins) (outs := outs) (ol := olock) (bl := bl) p (u, a, 0)
  have kid := flt_idem (ins := ins) (outs := outs) (ol := olock) (bl := bl) p (u, a, 0)
  rw [Q1] at k1 k2 kid
  have k2 : K.length ≤ p.length := k2
  -- the reference looks again
  obtain ⟨ms', msel', mm', mm3, ord', mp', mb', t1, t2, t3, t4, t5⟩ := dr_again (mm := mm2) (ord := ord1) (nI L.length) h5' hBm hh h7 v4
  have t4' := t4
  obtain ⟨hD2, ha2, _⟩ := t4
  obtain ⟨w1', w2', w3', w4', w5', w6', w7', w8'⟩ := t5
  obtain ⟨u4, a4, m4, f4, c4, w4, Z1, Z2, Z3⟩ := e_look (k := k) (macc := m2) (free := f2) (coin := c2) (worth := w1) hS0 t1 t2 t3 w5' (by omega) (fun b hb => by
    rw [(ha2 b ((v7 b).mp hb)).1]
    exact hLb b hb) v8 w3'
  have ez : (u4, a4) = (u, a) := Z2.symm.trans R2
  cases ez
  refine ⟨cs', csel', fso', fsq', am1, aam', held', ms1, msel1, mm2, ord1, m2, f2, c2, w1, mpool', ms', msel', mm3, ord', m4, f4, c4, w4, cp', cb', mp1, mb1, mp', mb', a, a2, K, L, ?_, ?_, Z1, ⟨t4', ⟨w1', w2', w3', w4', w5', w6', w7', w8'⟩, h7, u, u2, F2, R2, R3, Z3, R4, kid, Q3, LV_mono Q4 (by omega), Q6, N4, by omega, fun t ht => hpt t (k1 t ht)⟩, k1⟩
  · unfold m_bm_followDag
    rw [h1, mo_bs]
    dsimp only
    rw [R1, mo_bs]
    dsimp only
    unfold m_le_copyFrom
    show mo_bd (mo_cp am1 140 aam 140 0 (nI 0) (nI 140) _) _ = _
    rw [e_cp (by decide) (by decide) (by decide) (by decide), mo_bs]
    dsimp only
    have Q2 : mo_lp (m_bm_followDag_L41 ic islot olock bl ilock oc oamt (nI p.length)) 1000 (0, 0, a, va_cpy am1 aam 0 0 140, nI p.length, held8) = some (a2, aam', nI K.length, held') := by
      rw [Nat.sub_self] at Q2
      exact Q2
    rw [Q2, mo_bs]
  · unfold m_mm_settle
    rw [E1, mo_bs]
    dsimp only
    have N2 : mo_lp (m_mm_settle_L8 (nI p.length) inp src idx lock mbl sec amt outp w1) 1000 (0, 0, m1, f1, c1, mpool) = some (nI K.length, m2, f2, c2, mpool') := by
      rw [Nat.sub_self] at N2
      exact N2
    rw [N2, mo_bs]
