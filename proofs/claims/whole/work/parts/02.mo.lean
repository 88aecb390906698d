/-! Words for mirrors: what a method computes, as a function into Option; none where a step would leave the array. -/
def mo_rI {α : Type} (f : Nat → Int32) (n : Nat) (i : Int32) (k : Int32 → Option α) : Option α := if i < 0 ∨ n ≤ i.toNatClampNeg then none else k (f i.toNatClampNeg)
def mo_rL {α : Type} (f : Nat → Int64) (n : Nat) (i : Int32) (k : Int64 → Option α) : Option α := if i < 0 ∨ n ≤ i.toNatClampNeg then none else k (f i.toNatClampNeg)
def mo_wI {α : Type} (f : Nat → Int32) (n : Nat) (i x : Int32) (k : (Nat → Int32) → Option α) : Option α := if i < 0 ∨ n ≤ i.toNatClampNeg then none else k (upd f i.toNatClampNeg x)
def mo_wZ {α : Type} (f : Nat → Int32) (n : Nat) (i x : Int32) (k : (Nat → Int32) → Option α) : Option α := if i < 0 ∨ n ≤ i.toNatClampNeg then none else k (upd f i.toNatClampNeg (vp_nar .boolean x))
def mo_wL {α : Type} (f : Nat → Int64) (n : Nat) (i : Int32) (x : Int64) (k : (Nat → Int64) → Option α) : Option α := if i < 0 ∨ n ≤ i.toNatClampNeg then none else k (vp_updL f i.toNatClampNeg x)
def mo_br {α : Type} (c : Prop) [Decidable c] (a b : Option α) : Option α := if c then a else b
def mo_bd {α β : Type} (a : Option β) (k : β → Option α) : Option α := match a with
  | none => none
  | some x => k x
def mo_jn {α κ : Type} (k : κ) (b : κ → Option α) : Option α := b k
def mo_bz {α : Type} (v : Int32) (k : Option α) : Option α := if v = 0 ∨ v = 1 then k else none
def mo_lp {α β : Type} (step : (β → Option α) → β → Option α) : Nat → β → Option α
  | 0, _ => none
  | n + 1, x => step (mo_lp step n) x
theorem mo_rI_e {α : Type} {f : Nat → Int32} {n : Nat} {i : Int32} {k : Int32 → Option α} {o : α} (h : mo_rI f n i k = some o) : ∃ v, vp_in i n ∧ f i.toNatClampNeg = v ∧ k v = some o := by
  unfold mo_rI at h
  by_cases hc : i < 0 ∨ n ≤ i.toNatClampNeg
  · rw [if_pos hc] at h
    cases h
  · rw [if_neg hc] at h
    exact ⟨_, hc, rfl, h⟩
theorem mo_rL_e {α : Type} {f : Nat → Int64} {n : Nat} {i : Int32} {k : Int64 → Option α} {o : α} (h : mo_rL f n i k = some o) : ∃ v, vp_in i n ∧ f i.toNatClampNeg = v ∧ k v = some o := by
  unfold mo_rL at h
  by_cases hc : i < 0 ∨ n ≤ i.toNatClampNeg
  · rw [if_pos hc] at h
    cases h
  · rw [if_neg hc] at h
    exact ⟨_, hc, rfl, h⟩
theorem mo_wI_e {α : Type} {f : Nat → Int32} {n : Nat} {i x : Int32} {k : (Nat → Int32) → Option α} {o : α} (h : mo_wI f n i x k = some o) : ∃ g, vp_in i n ∧ upd f i.toNatClampNeg x = g ∧ k g = some o := by
  unfold mo_wI at h
  by_cases hc : i < 0 ∨ n ≤ i.toNatClampNeg
  · rw [if_pos hc] at h
    cases h
  · rw [if_neg hc] at h
    exact ⟨_, hc, rfl, h⟩
theorem mo_wZ_e {α : Type} {f : Nat → Int32} {n : Nat} {i x : Int32} {k : (Nat → Int32) → Option α} {o : α} (h : mo_wZ f n i x k = some o) : ∃ g, vp_in i n ∧ upd f i.toNatClampNeg (vp_nar .boolean x) = g ∧ k g = some o := by
  unfold mo_wZ at h
  by_cases hc : i < 0 ∨ n ≤ i.toNatClampNeg
  · rw [if_pos hc] at h
    cases h
  · rw [if_neg hc] at h
    exact ⟨_, hc, rfl, h⟩
theorem mo_wL_e {α : Type} {f : Nat → Int64} {n : Nat} {i : Int32} {x : Int64} {k : (Nat → Int64) → Option α} {o : α} (h : mo_wL f n i x k = some o) : ∃ g, vp_in i n ∧ vp_updL f i.toNatClampNeg x = g ∧ k g = some o := by
  unfold mo_wL at h
  by_cases hc : i < 0 ∨ n ≤ i.toNatClampNeg
  · rw [if_pos hc] at h
    cases h
  · rw [if_neg hc] at h
    exact ⟨_, hc, rfl, h⟩
theorem mo_t {α : Type} {c : Prop} [Decidable c] {a b : Option α} {o : α} (hc : c) (h : mo_br c a b = some o) : a = some o := by
  unfold mo_br at h
  rw [if_pos hc] at h
  exact h
theorem mo_f {α : Type} {c : Prop} [Decidable c] {a b : Option α} {o : α} (hc : ¬ c) (h : mo_br c a b = some o) : b = some o := by
  unfold mo_br at h
  rw [if_neg hc] at h
  exact h
theorem mo_bd_e {α β : Type} {a : Option β} {k : β → Option α} {o : α} (h : mo_bd a k = some o) : ∃ x, a = some x ∧ k x = some o := by
  cases a with
  | none => cases h
  | some x => exact ⟨x, rfl, h⟩
theorem mo_bd_k {α β : Type} {a : Option β} {k : β → Option α} {o : α} (h : mo_bd a k = some o) : ∃ x k', k' = k ∧ a = some x ∧ k' x = some o := by
  cases a with
  | none => cases h
  | some x => exact ⟨x, k, rfl, rfl, h⟩
theorem mo_jn_e {α κ : Type} {k : κ} {b : κ → Option α} {o : α} (h : mo_jn k b = some o) : ∃ k', k' = k ∧ b k' = some o := ⟨k, rfl, h⟩
theorem mo_bz_e {α : Type} {v : Int32} {k : Option α} {o : α} (h : mo_bz v k = some o) : (v = 0 ∨ v = 1) ∧ k = some o := by
  unfold mo_bz at h
  by_cases hc : v = 0 ∨ v = 1
  · rw [if_pos hc] at h
    exact ⟨hc, h⟩
  · rw [if_neg hc] at h
    cases h
theorem mo_nz {v : Int32} (h : v = 0 ∨ v = 1) : narrow .boolean (.int v) = .int v := by
  rcases h with rfl | rfl <;> rfl
theorem mo_lp_i {α β : Type} {step : (β → Option α) → β → Option α} {o : α} (P : β → Prop) (hs : ∀ back : β → Option α, (∀ x, back x = some o → P x) → ∀ x, step back x = some o → P x) : ∀ n x, mo_lp step n x = some o → P x := by
  intro n
  induction n with
  | zero => intro x h; cases h
  | succ n ih => intro x h; exact hs (mo_lp step n) ih x h
theorem mo_a0 {α : Type} {k k' : Option α} {o : α} (e : k' = k) (h : k' = some o) : k = some o := e ▸ h
theorem mo_a1 {α A : Type} {k k' : A → Option α} {a : A} {o : α} (e : k' = k) (h : k' a = some o) : k a = some o := e ▸ h
theorem mo_a2 {α A B : Type} {k k' : A → B → Option α} {a : A} {b : B} {o : α} (e : k' = k) (h : k' a b = some o) : k a b = some o := e ▸ h
theorem mo_a3 {α A B C : Type} {k k' : A → B → C → Option α} {a : A} {b : B} {c : C} {o : α} (e : k' = k) (h : k' a b c = some o) : k a b c = some o := e ▸ h
theorem mo_a4 {α A B C D : Type} {k k' : A → B → C → D → Option α} {a : A} {b : B} {c : C} {d : D} {o : α} (e : k' = k) (h : k' a b c d = some o) : k a b c d = some o := e ▸ h
theorem mo_a5 {α A B C D E : Type} {k k' : A → B → C → D → E → Option α} {a : A} {b : B} {c : C} {d : D} {x : E} {o : α} (e : k' = k) (h : k' a b c d x = some o) : k a b c d x = some o := e ▸ h
def mo_max (x y : Int32) : Int32 := if x < y then y else x
def mo_cp {α : Type} (f : Nat → Int32) (nf : Nat) (g : Nat → Int32) (ng : Nat) (sp dp n : Int32) (k : (Nat → Int32) → Option α) : Option α := if sp < 0 ∨ dp < 0 ∨ n < 0 ∨ nf < sp.toNatClampNeg + n.toNatClampNeg ∨ ng < dp.toNatClampNeg + n.toNatClampNeg then none else k (va_cpy f g sp.toNatClampNeg dp.toNatClampNeg n.toNatClampNeg)
theorem mo_cp_e {α : Type} {f g : Nat → Int32} {nf ng : Nat} {sp dp n : Int32} {k : (Nat → Int32) → Option α} {o : α} (h : mo_cp f nf g ng sp dp n k = some o) : ∃ g2, ¬ (sp < 0 ∨ dp < 0 ∨ n < 0 ∨ nf < sp.toNatClampNeg + n.toNatClampNeg ∨ ng < dp.toNatClampNeg + n.toNatClampNeg) ∧ va_cpy f g sp.toNatClampNeg dp.toNatClampNeg n.toNatClampNeg = g2 ∧ k g2 = some o := by
  unfold mo_cp at h
  by_cases hc : sp < 0 ∨ dp < 0 ∨ n < 0 ∨ nf < sp.toNatClampNeg + n.toNatClampNeg ∨ ng < dp.toNatClampNeg + n.toNatClampNeg
  · rw [if_pos hc] at h
    cases h
  · rw [if_neg hc] at h
    exact ⟨_, hc, rfl, h⟩
theorem mo_inc1 (x : Int32) : x + Int32.ofInt 1 = x + 1 := rfl
theorem mo_inc4 (x : Int32) : x + Int32.ofInt 4 = x + 4 := rfl
theorem mo_incm1 (x : Int32) : x + Int32.ofInt (-1) = x + (-1) := rfl
theorem mo_ne {x c : Int32} (h : ¬ x = c) : x.toInt ≠ c.toInt := fun e => h (Int32.toInt_inj.mp e)
