/-! when transactions or blocks are made, what follows the DAG stays as it was: rows that are there don't change -/
def AG (nT nB : Nat) (ins : Nat → List (Nat × Nat × Int32)) (outs : Nat → List (Int32 × Nat)) (ol bl : Nat → Int32) (I : Nat → List Nat) (ins' : Nat → List (Nat × Nat × Int32)) (outs' : Nat → List (Int32 × Nat)) (ol' bl' : Nat → Int32) (I' : Nat → List Nat) : Prop := (∀ t, t < nT → ins' t = ins t ∧ outs' t = outs t) ∧ (∀ j, j < 2 * nT → ol' j = ol j) ∧ ∀ b, b < nB → bl' b = bl b ∧ I' b = I b
section
variable {nT nB : Nat} {ins ins' : Nat → List (Nat × Nat × Int32)} {outs outs' : Nat → List (Int32 × Nat)} {ol bl ol' bl' : Nat → Int32} {I I' : Nat → List Nat}
theorem okT_ag {u : Nat → Option Nat} {a : Int64} {t : Nat} (hV : TV nT nB ins outs) (hA : AG nT nB ins outs ol bl I ins' outs' ol' bl' I') (ht : t < nT) : okT u a ol' bl' (ins' t) (outs' t) t ↔ okT u a ol bl (ins t) (outs t) t := by
  rw [(hA.1 t ht).1, (hA.1 t ht).2]
  have key : ∀ x ∈ ins t, (okS u ol' bl' x ↔ okS u ol bl x) := by
    intro x hx
    obtain ⟨j, hj⟩ := List.mem_iff_getElem?.mp hx
    have ho := (hV.2.2 t ht).2.2.1 j x.1 x.2.1 x.2.2 hj
    have hT := hV.1
    have e : lkO ol' bl' x.1 x.2.1 = lkO ol bl x.1 x.2.1 := by
      unfold lkO
      rcases ho with ⟨h1, h2⟩ | ⟨h1, h2, h3⟩
      · rw [if_pos (by omega), if_pos (by omega)]
        exact hA.2.1 _ (by omega)
      · rw [if_neg (by omega), if_neg (by omega)]
        exact (hA.2.2 _ h2).1
    unfold okS
    rw [e]
  unfold okT okA
  constructor
  · rintro ⟨h1, ⟨h2, h3⟩, h4⟩
    exact ⟨h1, ⟨fun x hx => (key x hx).mp (h2 x hx), h3⟩, h4⟩
  · rintro ⟨h1, ⟨h2, h3⟩, h4⟩
    exact ⟨h1, ⟨fun x hx => (key x hx).mpr (h2 x hx), h3⟩, h4⟩
theorem run1_ag {t : Nat} {z : (Nat → Option Nat) × Int64 × Nat} (hV : TV nT nB ins outs) (hA : AG nT nB ins outs ol bl I ins' outs' ol' bl' I') (ht : t < nT) : run1 ins' outs' ol' bl' t z = run1 ins outs ol bl t z := by
  unfold run1
  rw [pB_iff (okT_ag hV hA ht), (hA.1 t ht).1, (hA.1 t ht).2]
theorem runT_ag (hV : TV nT nB ins outs) (hA : AG nT nB ins outs ol bl I ins' outs' ol' bl' I') : ∀ (l : List Nat) (z : (Nat → Option Nat) × Int64 × Nat), (∀ t ∈ l, t < nT) → runT ins' outs' ol' bl' l z = runT ins outs ol bl l z := by
  intro l
  induction l with
  | nil => intro z _; rfl
  | cons t l ih =>
    intro z hl
    show runT ins' outs' ol' bl' l (run1 ins' outs' ol' bl' t z) = runT ins outs ol bl l (run1 ins outs ol bl t z)
    rw [run1_ag hV hA (hl t List.mem_cons_self)]
    exact ih _ (fun s hs => hl s (List.mem_cons_of_mem _ hs))
theorem runB_ag {B : Int64} {sc : Nat → Nat} (hV : TV nT nB ins outs) (hIt : ∀ b, b < nB → ∀ t ∈ I b, t < nT) (hA : AG nT nB ins outs ol bl I ins' outs' ol' bl' I') : ∀ (l : List Nat) (z : (Nat → Option Nat) × Int64), (∀ b ∈ l, b < nB) → runB ins' outs' ol' bl' I' B sc l z = runB ins outs ol bl I B sc l z := by
  intro l
  induction l with
  | nil => intro z _; rfl
  | cons b l ih =>
    intro z hl
    show runB ins' outs' ol' bl' I' B sc l (runB1 ins' outs' ol' bl' I' B sc b z) = runB ins outs ol bl I B sc l (runB1 ins outs ol bl I B sc b z)
    have hb := hl b List.mem_cons_self
    have e : runB1 ins' outs' ol' bl' I' B sc b z = runB1 ins outs ol bl I B sc b z := by
      unfold runB1
      rw [(hA.2.2 b hb).2, runT_ag hV hA _ _ (hIt b hb)]
    rw [e]
    exact ih _ (fun s hs => hl s (List.mem_cons_of_mem _ hs))
theorem flt_ag (hV : TV nT nB ins outs) (hA : AG nT nB ins outs ol bl I ins' outs' ol' bl' I') : ∀ (l : List Nat) (z : (Nat → Option Nat) × Int64 × Nat), (∀ t ∈ l, t < nT) → flt ins' outs' ol' bl' l z = flt ins outs ol bl l z := by
  intro l
  induction l with
  | nil => intro z _; rfl
  | cons t l ih =>
    intro z hl
    have ht := hl t List.mem_cons_self
    have hr : ∀ s ∈ l, s < nT := fun s hs => hl s (List.mem_cons_of_mem _ hs)
    by_cases q : okT z.1 z.2.1 ol bl (ins t) (outs t) t
    · rw [flt_t q, flt_t ((okT_ag hV hA ht).mpr q), run1_ag hV hA ht, ih _ hr]
    · rw [flt_f q, flt_f (fun w => q ((okT_ag hV hA ht).mp w)), ih _ hr]
theorem LV_ag {u : Nat → Option Nat} {a : Int64} {W nT' nB' : Nat} (h1 : nT ≤ nT') (h2 : nB ≤ nB') (hO : ∀ t, t < nT → outs' t = outs t) (hL : LV u a nT nB W outs) : LV u a nT' nB' W outs' := by
  obtain ⟨l1, l2, l3, l4⟩ := hL
  refine ⟨fun t k v ht hk hu => ?_, fun b v hb hu => ?_, l3, fun t ht => ?_⟩
  · obtain ⟨w1, w2, w3⟩ := l1 t k v ht hk hu
    rw [hO t w1]
    exact ⟨by omega, w2, w3⟩
  · have := l2 b v hb hu; omega
  · have := l4 t ht; omega
theorem FR_ag {k nT' nB' : Nat} {P P' : Nat → List Nat} {M tips : Int64} {sc : Nat → Nat} {p : List Nat} {h h' amt amt' cs csel sq lam aam held : Nat → Int32} {cp cb cf : Nat → Int64} {lacc aacc : Int64} {ms msel ord macc free coin worth mpool : Nat → Int32} {mp mb : Nat → Int64} {L : List Nat} (h1 : nT ≤ nT') (h2 : nB ≤ nB') (hB' : nB' ≤ 60) (hV : TV nT nB ins outs) (hIt : ∀ b, b < nB → ∀ t ∈ I b, t < nT) (hA : AG nT nB ins outs ol bl I ins' outs' ol' bl' I') (hP : ∀ b, b < nB → P' b = P b) (hh : ∀ b, b < nB → h' b = h b) (ham : ∀ j, j < 2 * nT → amt' j = amt j) (hF : FR nT nB k ins outs P I M tips sc p h bl ol amt cs csel sq lam aam held cp cb cf lacc aacc ms msel ord macc free coin worth mpool mp mb L) : FR nT' nB' k ins' outs' P' I' M tips sc p h' bl' ol' amt' cs csel sq lam aam held cp cb cf lacc aacc ms msel ord macc free coin worth mpool mp mb L := by
  obtain ⟨hD, hVR, hF6, u, u2, F2, r1, r2, r3, r4, r5, r6, r7, r8, r9, r10, r11⟩ := hF
  have hD0 := hD
  obtain ⟨⟨d1, d2, d3, d4, d5, d6, d7⟩, ha, e1, e2, e3, e4, e5, e6, e7, e8, e9, e10⟩ := hD
  have hVR0 := hVR
  obtain ⟨v1, v2, v3, v4, v5, v6, v7, v8⟩ := hVR
  obtain ⟨t1, t2, t3⟩ := dr_tips hD0
  have hPM : ∀ b, tb M b = true → P' b = P b := fun b hb => hP b (d3 b hb)
  have hP0 : P' 0 = [] := by rw [hPM 0 e9]; exact e10
  refine ⟨⟨⟨hB', d2, fun y hy => (by have := d3 y hy; omega), d4, d5, d6, d7⟩, ha, e1, e2, e3, fun y => ?_, fun b hb => ?_, fun b y hb => ?_, fun b hb hb0 => ?_, e8, e9, hP0⟩, hVR0, ?_, u, u2, F2, ?_, r2, ?_, LV_ag h1 h2 (fun t ht => (hA.1 t ht).2) r4, ?_, r6, LV_ag h1 h2 (fun t ht => (hA.1 t ht).2) r7, r8, r9, r10, fun t ht => (by have := r11 t ht; omega)⟩
  · rw [e4 y]
    constructor
    · rintro ⟨q1, q2⟩
      exact ⟨q1, fun b hb => by rw [hPM b hb]; exact q2 b hb⟩
    · rintro ⟨q1, q2⟩
      exact ⟨q1, fun b hb => by rw [← hPM b hb]; exact q2 b hb⟩
  · rw [hPM b hb]; exact e5 b hb
  · rw [hPM b hb]; exact e6 b y hb
  · rw [hPM b hb]; exact e7 b hb hb0
  · obtain ⟨⟨s, l, B, S1, S2⟩, S3⟩ := hF6
    exact ⟨⟨s, l, B, stl_h ⟨d1, d2, d3, d4, d5, d6, d7⟩ t1 t3 (fun y hy => (hh y (d3 y hy)).symm) S1, S2⟩, CH_congr (M := M) (fun y _ => ⟨rfl, rfl⟩) (fun y hy => (hh y (d3 y hy)).symm) 61 60 L (Or.inr rfl) (fun y hy => (v7 y).mp hy) S3⟩
  · rw [runB_ag hV hIt hA L _ (fun b hb => d3 b ((v7 b).mp hb))]
    exact r1
  · refine ⟨fun j hj => ⟨(r3.1 j hj).1, fun v hv => ?_⟩, r3.2⟩
    have hj2 := (r4.1 (j / 2) (j % 2) v (by omega) (by omega) (by rw [show 2 * (j / 2) + j % 2 = j by omega]; exact hv)).1
    rw [ham j (by omega)]
    exact (r3.1 j hj).2 v hv
  · rw [flt_ag hV hA p _ r11]
    exact r5
end
