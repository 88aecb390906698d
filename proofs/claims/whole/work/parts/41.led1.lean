/-! the ledger: what both sides read -/
def slt (s i : Nat) : Nat := if s < 100 then 2 * s + i else 80 + (s - 100)
def okI (nT nB s i : Nat) : Prop := (s < nT ∧ i < 2) ∨ (100 ≤ s ∧ s - 100 < nB ∧ i = 0)
def TX (nT : Nat) (ins : Nat → List (Nat × Nat × Int32)) (outs : Nat → List (Int32 × Nat)) (ic islot ilock oc olock oamt : Nat → Int32) : Prop := ∀ t, t < nT → ic t = nI (ins t).length ∧ (∀ k s i c, (ins t)[k]? = some (s, i, c) → islot (2 * t + k) = nI (slt s i) ∧ ilock (2 * t + k) = mx 7 c) ∧ oc t = nI (outs t).length ∧ (∀ k lk a, (outs t)[k]? = some (lk, a) → olock (2 * t + k) = lk ∧ oamt (2 * t + k) = nI a)
def TM (nT : Nat) (ins : Nat → List (Nat × Nat × Int32)) (outs : Nat → List (Int32 × Nat)) (inp src idx sec outp lock amt : Nat → Int32) : Prop := ∀ t, t < nT → inp t = nI (ins t).length ∧ (∀ k s i c, (ins t)[k]? = some (s, i, c) → src (2 * t + k) = nI s ∧ idx (2 * t + k) = nI i ∧ sec (2 * t + k) = c) ∧ outp t = nI (outs t).length ∧ (∀ k lk a, (outs t)[k]? = some (lk, a) → lock (2 * t + k) = lk ∧ amt (2 * t + k) = nI a)
def TV (nT nB : Nat) (ins : Nat → List (Nat × Nat × Int32)) (outs : Nat → List (Int32 × Nat)) : Prop := nT ≤ 40 ∧ nB ≤ 60 ∧ ∀ t, t < nT → (ins t).length ≤ 2 ∧ (outs t).length ≤ 2 ∧ (∀ (k s i : Nat) (c : Int32), (ins t)[k]? = some (s, i, c) → okI nT nB s i) ∧ (∀ (k : Nat) (lk : Int32) (a : Nat), (outs t)[k]? = some (lk, a) → a ≤ 1000)
def sumU (u : Nat → Option Nat) : Nat → Nat
  | 0 => 0
  | n + 1 => sumU u n + (u n).getD 0
theorem sumU_ge {u : Nat → Option Nat} {j : Nat} : ∀ {n : Nat}, j < n → (u j).getD 0 ≤ sumU u n := by
  intro n
  induction n with
  | zero => intro h; omega
  | succ n ih =>
    intro h
    show _ ≤ sumU u n + (u n).getD 0
    by_cases e : j = n
    · rw [e]; omega
    · have := ih (by omega); omega
def setU (u : Nat → Option Nat) (j : Nat) (x : Option Nat) : Nat → Option Nat := fun i => if i = j then x else u i
theorem setU_s {u : Nat → Option Nat} {j : Nat} {x : Option Nat} : setU u j x j = x := if_pos rfl
theorem setU_n {u : Nat → Option Nat} {j i : Nat} {x : Option Nat} (h : i ≠ j) : setU u j x i = u i := if_neg h
theorem sumU_set {u : Nat → Option Nat} {j : Nat} {x : Option Nat} : ∀ {n : Nat}, sumU (setU u j x) n + (if j < n then (u j).getD 0 else 0) = sumU u n + (if j < n then x.getD 0 else 0) := by
  intro n
  induction n with
  | zero => rfl
  | succ n ih =>
    show sumU (setU u j x) n + (setU u j x n).getD 0 + _ = sumU u n + (u n).getD 0 + _
    by_cases e : n = j
    · subst e
      rw [if_neg (by omega), if_neg (by omega)] at ih
      rw [setU_s, if_pos (by omega), if_pos (by omega)]
      omega
    · rw [setU_n e]
      by_cases q : j < n
      · rw [if_pos q, if_pos q] at ih
        rw [if_pos (by omega), if_pos (by omega)]
        omega
      · rw [if_neg q, if_neg q] at ih
        rw [if_neg (by omega), if_neg (by omega)]
        omega
def LC (u : Nat → Option Nat) (am : Nat → Int32) : Prop := ∀ j, j < 140 → am j = oI (u j)
def LM (u : Nat → Option Nat) (acc : Int64) (amt free coin worth macc : Nat → Int32) : Prop := (∀ j, j < 80 → free j = bI (u j).isSome ∧ ∀ v, u j = some v → amt j = nI v) ∧ (∀ b, b < 60 → coin b = bI (u (80 + b)).isSome ∧ ∀ v, u (80 + b) = some v → worth b = nI v) ∧ ∀ t, t < 40 → macc t = bI (tb acc t)
def LV (u : Nat → Option Nat) (acc : Int64) (nT nB W : Nat) (outs : Nat → List (Int32 × Nat)) : Prop := (∀ t k v, t < 40 → k < 2 → u (2 * t + k) = some v → t < nT ∧ tb acc t = true ∧ ∃ lk, (outs t)[k]? = some (lk, v)) ∧ (∀ b v, b < 60 → u (80 + b) = some v → b < nB) ∧ sumU u 140 ≤ W ∧ ∀ t, tb acc t = true → t < nT
theorem slt_lt {nT nB s i : Nat} (hT : nT ≤ 40) (hB : nB ≤ 60) (h : okI nT nB s i) : slt s i < 140 ∧ s < 160 ∧ i < 2 := by
  unfold slt
  rcases h with ⟨h1, h2⟩ | ⟨h1, h2, h3⟩
  · rw [if_pos (by omega)]; omega
  · rw [if_neg (by omega)]; omega
theorem slt_inj {nT nB s i s' i' : Nat} (hT : nT ≤ 40) (h : okI nT nB s i) (h' : okI nT nB s' i') : slt s i = slt s' i' ↔ s = s' ∧ i = i' := by
  unfold slt
  rcases h with ⟨h1, h2⟩ | ⟨h1, h2, h3⟩ <;> rcases h' with ⟨g1, g2⟩ | ⟨g1, g2, g3⟩
  · rw [if_pos (by omega), if_pos (by omega)]; omega
  · rw [if_pos (by omega), if_neg (by omega)]; omega
  · rw [if_neg (by omega), if_pos (by omega)]; omega
  · rw [if_neg (by omega), if_neg (by omega)]; omega
theorem oI_m1 {x : Option Nat} (h : ∀ v, x = some v → v < 2 ^ 31) : oI x = -1 ↔ x = none := by
  cases x with
  | none => exact ⟨fun _ => rfl, fun _ => rfl⟩
  | some v => exact ⟨fun q => absurd q (nI_nm1 (h v rfl)), fun q => by cases q⟩
/-- the lock of an output, on each side -/
def lkO (ol bl : Nat → Int32) (s i : Nat) : Int32 := if s < 100 then ol (2 * s + i) else bl (s - 100)
theorem e_clockOf {nT nB s i : Nat} {ol bl : Nat → Int32} (hT : nT ≤ 40) (hB : nB ≤ 60) (h : okI nT nB s i) : m_le_lockOf ol bl (nI (slt s i)) = some (lkO ol bl s i) := by
  unfold m_le_lockOf slt lkO
  rcases h with ⟨h1, h2⟩ | ⟨h1, h2, h3⟩
  · rw [if_pos (by omega), if_pos (by omega), mo_F (show ¬ (80 : Int32) ≤ nI (2 * s + i) from nI_ge (b := 80) (by omega) (by decide)), mo_rIn (by omega) (by decide)]
  · rw [if_neg (by omega), if_neg (by omega), mo_T (show (80 : Int32) ≤ nI (80 + (s - 100)) from nI_le (a := 80) (by omega) (by omega)), show nI (80 + (s - 100)) - 80 = nI (s - 100) by rw [show (80 : Int32) = nI 80 from rfl, pk_sub (by omega), Nat.add_sub_cancel_left], mo_rIn (by omega) (by decide)]
theorem s100 {s : Nat} (h : 100 ≤ s) : nI s - 100 = nI (s - 100) := pk_sub (b := 100) h
theorem e_mlockOf {nT nB s i : Nat} {ol bl : Nat → Int32} (hT : nT ≤ 40) (hB : nB ≤ 60) (h : okI nT nB s i) : m_mm_lockOf ol bl (nI s) (nI i) = some (lkO ol bl s i) := by
  unfold m_mm_lockOf lkO
  rcases h with ⟨h1, h2⟩ | ⟨h1, h2, h3⟩
  · rw [if_pos (by omega), mo_F (show ¬ (100 : Int32) ≤ nI s from nI_ge (b := 100) (by omega) (by decide)), show (2 : Int32) * nI s + nI i = nI (2 * s + i) from ix_m 2 s i, mo_rIn (by omega) (by decide)]
  · rw [if_neg (by omega), mo_T (show (100 : Int32) ≤ nI s from nI_le (a := 100) h1 (by omega)), s100 h1, mo_rIn (by omega) (by decide)]
theorem e_there {nT nB s i : Nat} {u : Nat → Option Nat} {acc : Int64} {amt free coin worth macc : Nat → Int32} (hM : LM u acc amt free coin worth macc) (hT : nT ≤ 40) (hB : nB ≤ 60) (h : okI nT nB s i) : m_mm_there free coin (nI s) (nI i) = some (bI (u (slt s i)).isSome) := by
  unfold m_mm_there slt
  rcases h with ⟨h1, h2⟩ | ⟨h1, h2, h3⟩
  · rw [if_pos (by omega), mo_F (show ¬ (100 : Int32) ≤ nI s from nI_ge (b := 100) (by omega) (by decide)), show (2 : Int32) * nI s + nI i = nI (2 * s + i) from ix_m 2 s i, mo_rIn (by omega) (by decide), (hM.1 _ (by omega)).1, z_bI]
  · subst h3
    rw [if_neg (by omega), mo_T (show (100 : Int32) ≤ nI s from nI_le (a := 100) h1 (by omega)), mo_T (by decide), s100 h1, mo_rIn (by omega) (by decide), (hM.2.1 _ (by omega)).1]
    cases (u (80 + (s - 100))).isSome <;> rfl
theorem e_worthOf {nT nB s i v : Nat} {u : Nat → Option Nat} {acc : Int64} {amt free coin worth macc : Nat → Int32} (hM : LM u acc amt free coin worth macc) (hT : nT ≤ 40) (hB : nB ≤ 60) (h : okI nT nB s i) (hv : u (slt s i) = some v) : m_mm_worthOf amt worth (nI s) (nI i) = some (nI v) := by
  unfold m_mm_worthOf
  unfold slt at hv
  rcases h with ⟨h1, h2⟩ | ⟨h1, h2, h3⟩
  · rw [if_pos (by omega)] at hv
    rw [mo_F (show ¬ (100 : Int32) ≤ nI s from nI_ge (b := 100) (by omega) (by decide)), show (2 : Int32) * nI s + nI i = nI (2 * s + i) from ix_m 2 s i, mo_rIn (by omega) (by decide), (hM.1 _ (by omega)).2 v hv]
  · rw [if_neg (by omega)] at hv
    rw [mo_T (show (100 : Int32) ≤ nI s from nI_le (a := 100) h1 (by omega)), s100 h1, mo_rIn (by omega) (by decide), (hM.2.1 _ (by omega)).2 v hv]
/-- an input's value; whether it may be spent -/
def valI (u : Nat → Option Nat) (x : Nat × Nat × Int32) : Nat := (u (slt x.1 x.2.1)).getD 0
def okS (u : Nat → Option Nat) (ol bl : Nat → Int32) (x : Nat × Nat × Int32) : Prop := (u (slt x.1 x.2.1)).isSome = true ∧ lkO ol bl x.1 x.2.1 = mx 7 x.2.2
def sumI (u : Nat → Option Nat) (l : List (Nat × Nat × Int32)) : Nat := (l.map (valI u)).sum
def sumO (l : List (Int32 × Nat)) : Nat := (l.map Prod.snd).sum
theorem sum_take {α : Type} (l : List α) (f : α → Nat) {j : Nat} (hj : j < l.length) : ((l.take (j + 1)).map f).sum = ((l.take j).map f).sum + f l[j] := by
  rw [(List.take_append_getElem hj).symm, List.map_append, List.sum_append]
  simp
theorem valI_le {u : Nat → Option Nat} {W nT nB : Nat} {x : Nat × Nat × Int32} (hW : sumU u 140 ≤ W) (hT : nT ≤ 40) (hB : nB ≤ 60) (h : okI nT nB x.1 x.2.1) : valI u x ≤ W := Nat.le_trans (sumU_ge (slt_lt hT hB h).1) hW
theorem sum_le {α : Type} {f : α → Nat} {W : Nat} : ∀ (l : List α), (∀ x ∈ l, f x ≤ W) → (l.map f).sum ≤ l.length * W := by
  intro l
  induction l with
  | nil => intro _; simp
  | cons a l ih =>
    intro h
    have h1 := ih (fun x hx => h x (List.mem_cons_of_mem _ hx))
    have h2 := h a List.mem_cons_self
    rw [List.map_cons, List.sum_cons, List.length_cons, Nat.succ_mul]
    omega
theorem e_outputSum {nT t : Nat} {ins : Nat → List (Nat × Nat × Int32)} {outs : Nat → List (Int32 × Nat)} {ic islot ilock oc olock oamt : Nat → Int32} (hX : TX nT ins outs ic islot ilock oc olock oamt) (ht : t < nT) (hT : nT ≤ 40) (hl : (outs t).length ≤ 2) : m_tr_outputSum oc oamt (nI t) = some (nI (sumO (outs t))) := by
  obtain ⟨_, _, h3, h4⟩ := hX t ht
  have key : mo_lp (m_tr_outputSum_L9 oc oamt (nI t)) 1000 (0, nI t * 2) = some (nI (sumO (outs t))) := by
    refine so_eq (lp_ix (outs t).length (fun j z => z = (nI (((outs t).take j).map Prod.snd).sum, nI (2 * t + j))) (fun o => o = nI (sumO (outs t))) ?_ 1000 0 (0, nI t * 2) (Nat.zero_le _) ?_ (by omega))
    · intro back j z hj hz ih
      subst hz
      unfold m_tr_outputSum_L9
      dsimp only
      rw [mo_rIn (by omega) (by decide), h3, show nI t * 2 + nI (outs t).length = nI (2 * t + (outs t).length) from ix_c 2 t _]
      by_cases e : j = (outs t).length
      · rw [mo_T (nI_le (by omega) (by omega)), e, List.take_length]
        exact ⟨_, rfl, rfl⟩
      · have hj2 : j < (outs t).length := by omega
        have h5 := (h4 j (outs t)[j].1 (outs t)[j].2 (List.getElem?_eq_getElem hj2)).2
        rw [mo_F (nI_ge (by omega) (by omega)), mo_rIn (by omega) (by decide), h5, nI_add, ← nI_succ]
        exact ih _ hj2 (by rw [sum_take _ _ hj2]; rfl)
    · show _ = (nI 0, nI (2 * t + 0))
      rw [show nI t * 2 = nI (t * 2) from pk_mul t 2, Nat.mul_comm, Nat.add_zero]
      rfl
  unfold m_tr_outputSum
  rw [key, mo_bs]
