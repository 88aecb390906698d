/-! sorted rows -/
theorem srt_eq {lt : Nat → Nat → Prop} (as : ∀ a b, lt a b → ¬ lt b a) : ∀ (l l' : List Nat), l.Pairwise lt → l'.Pairwise lt → (∀ x, x ∈ l ↔ x ∈ l') → l = l' := by
  intro l
  induction l with
  | nil =>
    intro l' _ _ hm
    cases l' with
    | nil => rfl
    | cons b t => exact absurd ((hm b).mpr List.mem_cons_self) List.not_mem_nil
  | cons a t ih =>
    intro l' h h' hm
    cases l' with
    | nil => exact absurd ((hm a).mp List.mem_cons_self) List.not_mem_nil
    | cons b t' =>
      rw [List.pairwise_cons] at h h'
      have hab : a = b := by
        by_cases e : a = b
        · exact e
        · have h1 : a ∈ t' := by
            rcases List.mem_cons.mp ((hm a).mp List.mem_cons_self) with q | q
            · exact absurd q e
            · exact q
          have h2 : b ∈ t := by
            rcases List.mem_cons.mp ((hm b).mpr List.mem_cons_self) with q | q
            · exact absurd q.symm e
            · exact q
          exact absurd (h'.1 a h1) (as _ _ (h.1 b h2))
      subst hab
      have n1 : a ∉ t := fun q => as _ _ (h.1 a q) (h.1 a q)
      have n2 : a ∉ t' := fun q => as _ _ (h'.1 a q) (h'.1 a q)
      have e : t = t' := by
        refine ih t' h.2 h'.2 (fun x => ?_)
        constructor
        · intro hx
          rcases List.mem_cons.mp ((hm x).mp (List.mem_cons_of_mem _ hx)) with q | q
          · exact absurd (q ▸ hx) n1
          · exact q
        · intro hx
          rcases List.mem_cons.mp ((hm x).mpr (List.mem_cons_of_mem _ hx)) with q | q
          · exact absurd (q ▸ hx) n2
          · exact q
      rw [e]
/-- earlier: by hash, of equal ones by number; before: by score, then earlier; heavier likewise -/
abbrev ear (hs : Nat → Int32) (a b : Nat) : Prop := (hs a).toInt < (hs b).toInt ∨ ((hs a).toInt = (hs b).toInt ∧ a < b)
abbrev bef (sc : Nat → Nat) (hs : Nat → Int32) (a b : Nat) : Prop := sc a < sc b ∨ (sc a = sc b ∧ ear hs a b)
abbrev hev (sc : Nat → Nat) (hs : Nat → Int32) (a b : Nat) : Prop := sc b < sc a ∨ (sc a = sc b ∧ ear hs a b)
theorem bef_as {sc : Nat → Nat} {hs : Nat → Int32} (a b : Nat) (h : bef sc hs a b) : ¬ bef sc hs b a := by
  unfold bef ear at *
  omega
theorem bef_tr {sc : Nat → Nat} {hs : Nat → Int32} {a b c : Nat} (h1 : bef sc hs a b) (h2 : bef sc hs b c) : bef sc hs a c := by
  unfold bef ear at *
  omega
theorem bef_to {sc : Nat → Nat} {hs : Nat → Int32} {a b : Nat} (h : a ≠ b) : bef sc hs a b ∨ bef sc hs b a := by
  unfold bef ear
  omega
