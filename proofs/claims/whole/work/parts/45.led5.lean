/-! a transaction on both sides: the ledger's relation is kept -/
theorem spd_some {l : List (Nat × Nat × Int32)} : ∀ {u : Nat → Option Nat} {j v : Nat}, spd l u j = some v → u j = some v := by
  induction l with
  | nil => intro u j v h; exact h
  | cons x l ih =>
    intro u j v h
    have h1 := ih (u := setU u (slt x.1 x.2.1) none) h
    by_cases e : j = slt x.1 x.2.1
    · rw [e, setU_s] at h1; cases h1
    · rw [setU_n e] at h1; exact h1
theorem spd_none {l : List (Nat × Nat × Int32)} {u : Nat → Option Nat} {j : Nat} (h : u j = none) : spd l u j = none := by
  cases q : spd l u j with
  | none => rfl
  | some v => rw [spd_some q] at h; cases h
theorem putO_at {t : Nat} : ∀ (l : List (Int32 × Nat)) (k : Nat) (u : Nat → Option Nat) (j : Nat), (∀ i y, l[i]? = some y → j = 2 * t + k + i → putO t k l u j = some y.2) ∧ ((j < 2 * t + k ∨ 2 * t + k + l.length ≤ j) → putO t k l u j = u j) := by
  intro l
  induction l with
  | nil => intro k u j; exact ⟨fun i y h => (by cases h), fun _ => rfl⟩
  | cons y l ih =>
    intro k u j
    obtain ⟨h1, h2⟩ := ih (k + 1) (setU u (2 * t + k) (some y.2)) j
    refine ⟨fun i z hz hj => ?_, fun hj => ?_⟩
    · cases i with
      | zero =>
        cases hz
        show putO t (k + 1) l (setU u (2 * t + k) (some y.2)) j = _
        rw [h2 (Or.inl (by omega)), hj]
        exact setU_s
      | succ i => exact h1 i z hz (by omega)
    · rw [List.length_cons] at hj
      show putO t (k + 1) l (setU u (2 * t + k) (some y.2)) j = _
      rw [h2 (by omega), setU_n (by omega)]
theorem sum_putO {t : Nat} : ∀ (l : List (Int32 × Nat)) (k : Nat) (u : Nat → Option Nat), 2 * t + k + l.length ≤ 140 → (∀ i, i < l.length → u (2 * t + k + i) = none) → sumU (putO t k l u) 140 = sumU u 140 + sumO l := by
  intro l
  induction l with
  | nil => intro k u _ _; exact (Nat.add_zero (sumU u 140)).symm
  | cons y l ih =>
    intro k u hl hn
    rw [List.length_cons] at hl hn
    have h1 := ih (k + 1) (setU u (2 * t + k) (some y.2)) (by omega) (fun i hi => by
      rw [setU_n (by omega)]
      have := hn (i + 1) (by omega)
      rw [show 2 * t + k + (i + 1) = 2 * t + (k + 1) + i by omega] at this
      exact this)
    show sumU (putO t (k + 1) l (setU u (2 * t + k) (some y.2))) 140 = _
    rw [h1]
    have h2 := sumU_set (u := u) (j := 2 * t + k) (x := some y.2) (n := 140)
    have h3 := hn 0 (by omega)
    rw [Nat.add_zero] at h3
    rw [if_pos (by omega), if_pos (by omega), h3] at h2
    have h4 : sumO (y :: l) = y.2 + sumO l := by unfold sumO; rw [List.map_cons, List.sum_cons]
    have h5 : (some y.2 : Option Nat).getD 0 = y.2 := rfl
    have h6 : (none : Option Nat).getD 0 = 0 := rfl
    rw [h5, h6] at h2
    omega
theorem sum_spd {nT nB : Nat} {u : Nat → Option Nat} {l : List (Nat × Nat × Int32)} (hT : nT ≤ 40) (hB : nB ≤ 60) (hlen : l.length ≤ 2) (hv : ∀ (k s i : Nat) (c : Int32), l[k]? = some (s, i, c) → okI nT nB s i) (ha : adj l) : sumU (spd l u) 140 + sumI u l = sumU u 140 := by
  match l, hlen, hv, ha with
  | [], _, _, _ => exact Nat.add_zero (sumU u 140)
  | [x], _, hv, _ =>
    have b := (slt_lt hT hB (hv 0 x.1 x.2.1 x.2.2 rfl)).1
    have h2 := sumU_set (u := u) (j := slt x.1 x.2.1) (x := none) (n := 140)
    rw [if_pos b, if_pos b] at h2
    have h3 : sumI u [x] = (u (slt x.1 x.2.1)).getD 0 := by unfold sumI valI; simp
    have h4 : (none : Option Nat).getD 0 = 0 := rfl
    show sumU (setU u (slt x.1 x.2.1) none) 140 + sumI u [x] = _
    omega
  | [x, y], _, hv, ha =>
    have b := (slt_lt hT hB (hv 0 x.1 x.2.1 x.2.2 rfl)).1
    have d := (slt_lt hT hB (hv 1 y.1 y.2.1 y.2.2 rfl)).1
    have hne := ha 0 x y rfl rfl
    have h2 := sumU_set (u := u) (j := slt x.1 x.2.1) (x := none) (n := 140)
    have h5 := sumU_set (u := setU u (slt x.1 x.2.1) none) (j := slt y.1 y.2.1) (x := none) (n := 140)
    rw [if_pos b, if_pos b] at h2
    rw [if_pos d, if_pos d, setU_n (Ne.symm hne)] at h5
    have h3 : sumI u [x, y] = (u (slt x.1 x.2.1)).getD 0 + (u (slt y.1 y.2.1)).getD 0 := by unfold sumI valI; simp
    have h4 : (none : Option Nat).getD 0 = 0 := rfl
    show sumU (setU (setU u (slt x.1 x.2.1) none) (slt y.1 y.2.1) none) 140 + sumI u [x, y] = _
    omega
  | x :: y :: z :: l, h, _, _ => simp at h
/-- what stands behind a transaction -/
def aft (t : Nat) (ins : List (Nat × Nat × Int32)) (outs : List (Int32 × Nat)) (u : Nat → Option Nat) : Nat → Option Nat := putO t 0 outs (spd ins u)
theorem LV_tx {nT nB t W : Nat} {u : Nat → Option Nat} {acc : Int64} {ins : Nat → List (Nat × Nat × Int32)} {outs : Nat → List (Int32 × Nat)} {ol bl : Nat → Int32} (hV : TV nT nB ins outs) (hL : LV u acc nT nB W outs) (ht : t < nT) (hok : okT u acc ol bl (ins t) (outs t) t) : LV (aft t (ins t) (outs t) u) (acc ||| bi t) nT nB (W - (sumI u (ins t) - sumO (outs t))) outs ∧ sumI u (ins t) - sumO (outs t) ≤ W ∧ ∀ b, b < 60 → u (80 + b) = none → aft t (ins t) (outs t) u (80 + b) = none := by
  obtain ⟨hT, hB, hv⟩ := hV
  obtain ⟨v1, v2, v3, v4⟩ := hv t ht
  obtain ⟨l1, l2, l3, l4⟩ := hL
  obtain ⟨o1, ⟨o2, o3⟩, o4⟩ := hok
  have hnone : ∀ k, k < 2 → u (2 * t + k) = none := fun k hk => by
    cases q : u (2 * t + k) with
    | none => rfl
    | some v => rw [(l1 t k v (by omega) hk q).2.1] at o1; cases o1
  have e1 := sum_spd (u := u) hT hB v1 v3 o3
  have e2 := sum_putO (t := t) (outs t) 0 (spd (ins t) u) (by omega) (fun i hi => by
    rw [Nat.add_zero]
    exact spd_none (hnone i (by omega)))
  have hacc : ∀ y, tb (acc ||| bi t) y = true ↔ (tb acc y = true ∨ y = t) := fun y => by rw [tb_or, tb_bi (by omega), Bool.or_eq_true, decide_eq_true_iff]
  refine ⟨⟨fun t' k v ht' hk hv => ?_, fun b v hb hv => ?_, ?_, fun y hy => ?_⟩, by omega, fun b hb hn => ?_⟩
  · obtain ⟨p1, p2⟩ := putO_at (t := t) (outs t) 0 (spd (ins t) u) (2 * t' + k)
    by_cases et : t' = t
    · subst et
      refine ⟨ht, (hacc t').mpr (Or.inr rfl), ?_⟩
      by_cases ek : k < (outs t').length
      · have h5 := p1 k _ (List.getElem?_eq_getElem ek) (by omega)
        have h6 : aft t' (ins t') (outs t') u (2 * t' + k) = some v := hv
        unfold aft at h6
        rw [h5] at h6
        refine ⟨(outs t')[k].1, ?_⟩
        rw [List.getElem?_eq_getElem ek, ← Option.some.inj h6]
      · have h6 : putO t' 0 (outs t') (spd (ins t') u) (2 * t' + k) = some v := hv
        rw [p2 (Or.inr (by omega))] at h6
        have := spd_some h6
        rw [hnone k hk] at this
        cases this
    · have h6 : putO t 0 (outs t) (spd (ins t) u) (2 * t' + k) = some v := hv
      rw [p2 (by omega)] at h6
      obtain ⟨q1, q2, q3⟩ := l1 t' k v ht' hk (spd_some h6)
      exact ⟨q1, (hacc t').mpr (Or.inl q2), q3⟩
  · have h6 : putO t 0 (outs t) (spd (ins t) u) (80 + b) = some v := hv
    rw [(putO_at (t := t) (outs t) 0 (spd (ins t) u) (80 + b)).2 (Or.inr (by omega))] at h6
    exact l2 b v hb (spd_some h6)
  · show sumU (putO t 0 (outs t) (spd (ins t) u)) 140 ≤ _
    rw [e2]
    omega
  · rcases (hacc y).mp hy with q | q
    · exact l4 y q
    · rw [q]; exact ht
  · show putO t 0 (outs t) (spd (ins t) u) (80 + b) = none
    rw [(putO_at (t := t) (outs t) 0 (spd (ins t) u) (80 + b)).2 (Or.inr (by omega))]
    exact spd_none hn
theorem okT_lk {nT nB t W : Nat} {u : Nat → Option Nat} {acc : Int64} {ins : Nat → List (Nat × Nat × Int32)} {outs : Nat → List (Int32 × Nat)} {ic islot ilock oc olock oamt inp src idx sec outp lock amt bl mbl : Nat → Int32} (hX : TX nT ins outs ic islot ilock oc olock oamt) (hM : TM nT ins outs inp src idx sec outp lock amt) (hV : TV nT nB ins outs) (hL : LV u acc nT nB W outs) (hb : ∀ b, b < nB → mbl b = bl b) (ht : t < nT) : okT u acc lock mbl (ins t) (outs t) t ↔ okT u acc olock bl (ins t) (outs t) t := by
  have hT := hV.1
  have key : ∀ x ∈ ins t, (u (slt x.1 x.2.1)).isSome = true → lkO lock mbl x.1 x.2.1 = lkO olock bl x.1 x.2.1 := by
    intro x hx hu
    obtain ⟨k, hk⟩ := List.getElem?_of_mem hx
    obtain ⟨v, hv⟩ := Option.isSome_iff_exists.mp hu
    unfold lkO
    unfold slt at hv
    rcases (hV.2.2 t ht).2.2.1 k x.1 x.2.1 x.2.2 hk with ⟨o1, o2⟩ | ⟨o1, o2, o3⟩
    · rw [if_pos (by omega)] at hv
      rw [if_pos (by omega), if_pos (by omega)]
      obtain ⟨_, _, lk, h5⟩ := hL.1 x.1 x.2.1 v (by omega) o2 hv
      rw [((hX x.1 o1).2.2.2 _ _ _ h5).1, ((hM x.1 o1).2.2.2 _ _ _ h5).1]
    · rw [if_neg (by omega), if_neg (by omega)]
      exact hb _ o2
  have ks : (∀ x ∈ ins t, okS u lock mbl x) ↔ (∀ x ∈ ins t, okS u olock bl x) := by
    constructor
    · intro w x hx
      obtain ⟨w1, w2⟩ := w x hx
      exact ⟨w1, by rw [← key x hx w1]; exact w2⟩
    · intro w x hx
      obtain ⟨w1, w2⟩ := w x hx
      exact ⟨w1, by rw [key x hx w1]; exact w2⟩
  constructor
  · rintro ⟨w1, ⟨w2, w3⟩, w4⟩
    exact ⟨w1, ⟨ks.mp w2, w3⟩, w4⟩
  · rintro ⟨w1, ⟨w2, w3⟩, w4⟩
    exact ⟨w1, ⟨ks.mpr w2, w3⟩, w4⟩
/-- a row of transactions, done one behind another: what is unspent, the accepted, the fees -/
noncomputable def run1 (ins : Nat → List (Nat × Nat × Int32)) (outs : Nat → List (Int32 × Nat)) (ol bl : Nat → Int32) (t : Nat) (z : (Nat → Option Nat) × Int64 × Nat) : (Nat → Option Nat) × Int64 × Nat := if pB (okT z.1 z.2.1 ol bl (ins t) (outs t) t) = true then (aft t (ins t) (outs t) z.1, z.2.1 ||| bi t, z.2.2 + (sumI z.1 (ins t) - sumO (outs t))) else z
noncomputable def runT (ins : Nat → List (Nat × Nat × Int32)) (outs : Nat → List (Int32 × Nat)) (ol bl : Nat → Int32) : List Nat → (Nat → Option Nat) × Int64 × Nat → (Nat → Option Nat) × Int64 × Nat
  | [], z => z
  | t :: l, z => runT ins outs ol bl l (run1 ins outs ol bl t z)
theorem runT_drop {ins : Nat → List (Nat × Nat × Int32)} {outs : Nat → List (Int32 × Nat)} {ol bl : Nat → Int32} {l : List Nat} {j : Nat} (hj : j < l.length) (z : (Nat → Option Nat) × Int64 × Nat) : runT ins outs ol bl (l.drop j) z = runT ins outs ol bl (l.drop (j + 1)) (run1 ins outs ol bl l[j] z) := by
  rw [List.drop_eq_getElem_cons hj]
  rfl
