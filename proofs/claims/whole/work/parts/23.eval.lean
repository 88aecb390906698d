/-! mirrors evaluated: rows of the words mo_ -/
theorem mo_T {α : Type} {c : Prop} [Decidable c] {a b : Option α} (h : c) : mo_br c a b = a := if_pos h
theorem mo_F {α : Type} {c : Prop} [Decidable c] {a b : Option α} (h : ¬ c) : mo_br c a b = b := if_neg h
theorem mo_bs {α β : Type} (x : β) (k : β → Option α) : mo_bd (some x) k = k x := rfl
theorem mo_js {α κ : Type} (k : κ) (b : κ → Option α) : mo_jn k b = b k := rfl
theorem mo_z0 {α : Type} (k : Option α) : mo_bz 0 k = k := rfl
theorem mo_z1 {α : Type} (k : Option α) : mo_bz 1 k = k := rfl
theorem mo_zb {α : Type} (c : Prop) [Decidable c] (k : Option α) : mo_bz (if c then 1 else 0) k = k := by
  by_cases h : c
  · rw [if_pos h]; rfl
  · rw [if_neg h]; rfl
theorem mo_rIn {α : Type} {f : Nat → Int32} {n j : Nat} {k : Int32 → Option α} (h : j < n) (hn : n < 2 ^ 31) : mo_rI f n (nI j) k = k (f j) := by
  unfold mo_rI
  rw [if_neg (nI_in h hn), nI_clamp (by omega)]
theorem mo_rLn {α : Type} {f : Nat → Int64} {n j : Nat} {k : Int64 → Option α} (h : j < n) (hn : n < 2 ^ 31) : mo_rL f n (nI j) k = k (f j) := by
  unfold mo_rL
  rw [if_neg (nI_in h hn), nI_clamp (by omega)]
theorem mo_wIn {α : Type} {f : Nat → Int32} {n j : Nat} {x : Int32} {k : (Nat → Int32) → Option α} (h : j < n) (hn : n < 2 ^ 31) : mo_wI f n (nI j) x k = k (upd f j x) := by
  unfold mo_wI
  rw [if_neg (nI_in h hn), nI_clamp (by omega)]
theorem mo_wLn {α : Type} {f : Nat → Int64} {n j : Nat} {x : Int64} {k : (Nat → Int64) → Option α} (h : j < n) (hn : n < 2 ^ 31) : mo_wL f n (nI j) x k = k (vp_updL f j x) := by
  unfold mo_wL
  rw [if_neg (nI_in h hn), nI_clamp (by omega)]
theorem mo_wZn {α : Type} {f : Nat → Int32} {n j : Nat} {x : Int32} {k : (Nat → Int32) → Option α} (h : j < n) (hn : n < 2 ^ 31) : mo_wZ f n (nI j) x k = k (upd f j (vp_nar .boolean x)) := by
  unfold mo_wZ
  rw [if_neg (nI_in h hn), nI_clamp (by omega)]
theorem nI_inj {a b : Nat} (ha : a < 2 ^ 31) (hb : b < 2 ^ 31) : nI a = nI b ↔ a = b := by
  constructor
  · intro h
    have h1 := congrArg Int32.toInt h
    rw [nI_toInt ha, nI_toInt hb] at h1
    omega
  · intro h
    rw [h]
theorem nI_lt_iff {a b : Nat} (ha : a < 2 ^ 31) (hb : b < 2 ^ 31) : nI a < nI b ↔ a < b := by
  rw [Int32.lt_iff_toInt_lt, nI_toInt ha, nI_toInt hb]
  omega
theorem nI_le_iff {a b : Nat} (ha : a < 2 ^ 31) (hb : b < 2 ^ 31) : nI a ≤ nI b ↔ a ≤ b := by
  rw [Int32.le_iff_toInt_le, nI_toInt ha, nI_toInt hb]
  omega
theorem nI_nm1 {a : Nat} (ha : a < 2 ^ 31) : ¬ nI a = -1 := by
  intro h
  have h1 := congrArg Int32.toInt h
  rw [nI_toInt ha] at h1
  have h2 : (-1 : Int32).toInt = -1 := by decide
  rw [h2] at h1
  omega
/-- a loop that ends: a measure falls, an invariant is kept, what comes out is told of where it goes in -/
theorem mo_lp_t {α β : Type} {step : (β → Option α) → β → Option α} (Inv : β → Prop) (mu : β → Nat) (Post : β → α → Prop) (hs : ∀ (back : β → Option α) (x : β), Inv x → (∀ x', Inv x' → mu x' < mu x → ∃ o, back x' = some o ∧ Post x' o) → ∃ o, step back x = some o ∧ Post x o) : ∀ n x, Inv x → mu x < n → ∃ o, mo_lp step n x = some o ∧ Post x o := by
  intro n
  induction n with
  | zero => intro x _ h; omega
  | succ n ih => intro x hx h; exact hs (mo_lp step n) x hx (fun x' h1 h2 => ih x' h1 (by omega))
/-- the same by an equation -/
theorem mo_lp_q {α β : Type} {step : (β → Option α) → β → Option α} (Inv : β → Prop) (mu : β → Nat) (F : β → α) (hs : ∀ (back : β → Option α) (x : β), Inv x → (∀ x', Inv x' → mu x' < mu x → back x' = some (F x')) → step back x = some (F x)) : ∀ n x, Inv x → mu x < n → mo_lp step n x = some (F x) := by
  intro n
  induction n with
  | zero => intro x _ h; omega
  | succ n ih => intro x hx h; exact hs (mo_lp step n) x hx (fun x' h1 h2 => ih x' h1 (by omega))
/-- a loop that counts: S j x says what is so at its j-th turn -/
theorem lp_ix {α β : Type} {step : (β → Option α) → β → Option α} (n : Nat) (S : Nat → β → Prop) (R : α → Prop) (hs : ∀ (back : β → Option α) (j : Nat) (x : β), j ≤ n → S j x → (∀ x', j < n → S (j + 1) x' → ∃ o, back x' = some o ∧ R o) → ∃ o, step back x = some o ∧ R o) : ∀ f j x, j ≤ n → S j x → n - j < f → ∃ o, mo_lp step f x = some o ∧ R o := by
  intro f
  induction f with
  | zero => intro j x _ _ h; omega
  | succ f ih => intro j x hj hx h; exact hs (mo_lp step f) j x hj hx (fun x' h1 h2 => ih (j + 1) x' (by omega) h2 (by omega))
theorem so_eq {α : Type} {a : Option α} {v : α} (h : ∃ o, a = some o ∧ o = v) : a = some v := by
  obtain ⟨o, h1, h2⟩ := h
  rw [h1, h2]
theorem eq_so {α : Type} {a : Option α} {v : α} {R : α → Prop} (h : a = some v) (hr : R v) : ∃ o, a = some o ∧ R o := ⟨v, h, hr⟩
