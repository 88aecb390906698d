theorem mo_a6 {α T0 T1 T2 T3 T4 T5 : Type} {k k' : T0 → T1 → T2 → T3 → T4 → T5 → Option α} {a0 : T0} {a1 : T1} {a2 : T2} {a3 : T3} {a4 : T4} {a5 : T5} {o : α} (e : k' = k) (h : k' a0 a1 a2 a3 a4 a5 = some o) : k a0 a1 a2 a3 a4 a5 = some o := e ▸ h
theorem mo_a7 {α T0 T1 T2 T3 T4 T5 T6 : Type} {k k' : T0 → T1 → T2 → T3 → T4 → T5 → T6 → Option α} {a0 : T0} {a1 : T1} {a2 : T2} {a3 : T3} {a4 : T4} {a5 : T5} {a6 : T6} {o : α} (e : k' = k) (h : k' a0 a1 a2 a3 a4 a5 a6 = some o) : k a0 a1 a2 a3 a4 a5 a6 = some o := e ▸ h
theorem mo_a8 {α T0 T1 T2 T3 T4 T5 T6 T7 : Type} {k k' : T0 → T1 → T2 → T3 → T4 → T5 → T6 → T7 → Option α} {a0 : T0} {a1 : T1} {a2 : T2} {a3 : T3} {a4 : T4} {a5 : T5} {a6 : T6} {a7 : T7} {o : α} (e : k' = k) (h : k' a0 a1 a2 a3 a4 a5 a6 a7 = some o) : k a0 a1 a2 a3 a4 a5 a6 a7 = some o := e ▸ h
theorem mo_a9 {α T0 T1 T2 T3 T4 T5 T6 T7 T8 : Type} {k k' : T0 → T1 → T2 → T3 → T4 → T5 → T6 → T7 → T8 → Option α} {a0 : T0} {a1 : T1} {a2 : T2} {a3 : T3} {a4 : T4} {a5 : T5} {a6 : T6} {a7 : T7} {a8 : T8} {o : α} (e : k' = k) (h : k' a0 a1 a2 a3 a4 a5 a6 a7 a8 = some o) : k a0 a1 a2 a3 a4 a5 a6 a7 a8 = some o := e ▸ h
theorem mo_a10 {α T0 T1 T2 T3 T4 T5 T6 T7 T8 T9 : Type} {k k' : T0 → T1 → T2 → T3 → T4 → T5 → T6 → T7 → T8 → T9 → Option α} {a0 : T0} {a1 : T1} {a2 : T2} {a3 : T3} {a4 : T4} {a5 : T5} {a6 : T6} {a7 : T7} {a8 : T8} {a9 : T9} {o : α} (e : k' = k) (h : k' a0 a1 a2 a3 a4 a5 a6 a7 a8 a9 = some o) : k a0 a1 a2 a3 a4 a5 a6 a7 a8 a9 = some o := e ▸ h
theorem mo_a11 {α T0 T1 T2 T3 T4 T5 T6 T7 T8 T9 T10 : Type} {k k' : T0 → T1 → T2 → T3 → T4 → T5 → T6 → T7 → T8 → T9 → T10 → Option α} {a0 : T0} {a1 : T1} {a2 : T2} {a3 : T3} {a4 : T4} {a5 : T5} {a6 : T6} {a7 : T7} {a8 : T8} {a9 : T9} {a10 : T10} {o : α} (e : k' = k) (h : k' a0 a1 a2 a3 a4 a5 a6 a7 a8 a9 a10 = some o) : k a0 a1 a2 a3 a4 a5 a6 a7 a8 a9 a10 = some o := e ▸ h
theorem mo_a12 {α T0 T1 T2 T3 T4 T5 T6 T7 T8 T9 T10 T11 : Type} {k k' : T0 → T1 → T2 → T3 → T4 → T5 → T6 → T7 → T8 → T9 → T10 → T11 → Option α} {a0 : T0} {a1 : T1} {a2 : T2} {a3 : T3} {a4 : T4} {a5 : T5} {a6 : T6} {a7 : T7} {a8 : T8} {a9 : T9} {a10 : T10} {a11 : T11} {o : α} (e : k' = k) (h : k' a0 a1 a2 a3 a4 a5 a6 a7 a8 a9 a10 a11 = some o) : k a0 a1 a2 a3 a4 a5 a6 a7 a8 a9 a10 a11 = some o := e ▸ h
theorem mo_a13 {α T0 T1 T2 T3 T4 T5 T6 T7 T8 T9 T10 T11 T12 : Type} {k k' : T0 → T1 → T2 → T3 → T4 → T5 → T6 → T7 → T8 → T9 → T10 → T11 → T12 → Option α} {a0 : T0} {a1 : T1} {a2 : T2} {a3 : T3} {a4 : T4} {a5 : T5} {a6 : T6} {a7 : T7} {a8 : T8} {a9 : T9} {a10 : T10} {a11 : T11} {a12 : T12} {o : α} (e : k' = k) (h : k' a0 a1 a2 a3 a4 a5 a6 a7 a8 a9 a10 a11 a12 = some o) : k a0 a1 a2 a3 a4 a5 a6 a7 a8 a9 a10 a11 a12 = some o := e ▸ h
theorem mo_a14 {α T0 T1 T2 T3 T4 T5 T6 T7 T8 T9 T10 T11 T12 T13 : Type} {k k' : T0 → T1 → T2 → T3 → T4 → T5 → T6 → T7 → T8 → T9 → T10 → T11 → T12 → T13 → Option α} {a0 : T0} {a1 : T1} {a2 : T2} {a3 : T3} {a4 : T4} {a5 : T5} {a6 : T6} {a7 : T7} {a8 : T8} {a9 : T9} {a10 : T10} {a11 : T11} {a12 : T12} {a13 : T13} {o : α} (e : k' = k) (h : k' a0 a1 a2 a3 a4 a5 a6 a7 a8 a9 a10 a11 a12 a13 = some o) : k a0 a1 a2 a3 a4 a5 a6 a7 a8 a9 a10 a11 a12 a13 = some o := e ▸ h
/-! worlds, words, contracts -/
def WG : List Cond := lw_tbl.filter goodWord
def mo_nest : Cond → Bool
  | .fieldLinkNest .. => true
  | .methodLinkNest .. => true
  | _ => false
def NWG : List Cond := tables_1.filter mo_nest
def mo_N (U : State) : Prop := ∀ w ∈ NWG, va_Nw w U
theorem mo_N.warm {s U : State} (hW : s.WarmedH U.vm) (h : mo_N s) : mo_N U := by
  intro w hw
  have h1 := h w hw
  have h2 := (List.mem_filter.mp hw).2
  cases w <;> first | exact va_Nw.warmF hW h1 | exact va_Nw.warmM hW h1 | (simp [mo_nest] at h2; done)
theorem mo_N.same {s U : State} (hv : s.vm = U.vm) (h : mo_N s) : mo_N U := by
  intro w hw
  have h1 := h w hw
  have h2 := (List.mem_filter.mp hw).2
  cases w <;> first | exact va_Nw.same rfl hv h1 | (simp [mo_nest] at h2; done)
theorem mo_t1 {w : Cond} (h : w ∈ tables_1_1) : w ∈ tables_1 := List.mem_append_left _ h
theorem mo_t2 {w : Cond} (h : w ∈ tables_1_2) : w ∈ tables_1 := List.mem_append_right _ (List.mem_append_left _ h)
theorem mo_t3 {w : Cond} (h : w ∈ tables_1_3) : w ∈ tables_1 := List.mem_append_right _ (List.mem_append_right _ (List.mem_append_left _ h))
theorem mo_t4 {w : Cond} (h : w ∈ tables_1_4) : w ∈ tables_1 := List.mem_append_right _ (List.mem_append_right _ (List.mem_append_right _ h))
theorem mo_wg {w : Cond} (h : w ∈ tables_1) (hg : goodWord w = true) : w ∈ WG := List.mem_filter.mpr ⟨List.mem_append_right _ h, hg⟩
theorem mo_nw {w : Cond} (h : w ∈ tables_1) (hg : mo_nest w = true) : w ∈ NWG := List.mem_filter.mpr ⟨h, hg⟩
theorem mo_sel {y : MethodName} {n : Nat} (h : (y, n) ∈ lw_privs) : Cond.selects y.cls y y ∈ WG := List.mem_filter.mpr ⟨List.mem_append_left _ (List.mem_map.mpr ⟨(y, n), h, rfl⟩), rfl⟩
theorem mo_good {c : Cond} (h : c ∈ WG) : GoodIn WG (c :: WG) := fun w hw => by
  have hm : w ∈ WG := (List.mem_cons.mp hw).elim (fun e => e ▸ h) id
  exact ⟨hm, good_of_word (List.mem_filter.mp hm).2⟩
/-- a read-only call's start, a writing call's start -/
def mo_Pr (D : va_G) (tys : List (ClassId × FieldType)) (ws : va_W) : State → Prop := fun U => va_P D cl ws U.heap ∧ va_K D cl tys U ∧ mo_N U
def mo_Pm (D : va_G) (tys : List (ClassId × FieldType)) (ws : va_W) : State → Prop := fun U => va_P D cl ws U.heap ∧ va_K D cl tys U ∧ mo_N U ∧ va_D (fun _ => True) ws
def mo_A (ws : va_W) : Nat → Prop := fun q => ∃ (k : Nat) (e : va_E), ws[k]? = some (q, e)
def mo_Qr (v : Option Value) : Array Value → State → Outcome → State → Prop := fun _ st oc t => oc = .returned v ∧ t.heap = st.heap
def mo_Qm {α : Type} (D : va_G) (ws : va_W) (wf : α → va_W) (rv : α → Option Value) (o : α) : Array Value → State → Outcome → State → Prop := fun _ st oc t => oc = .returned (rv o) ∧ va_P D cl (wf o) t.heap ∧ va_F (mo_A ws) st t
theorem mo_blindR {av : List Value} {D : va_G} {tys : List (ClassId × FieldType)} {ws : va_W} : FrameBlind (va_Pc av (mo_Pr D tys ws)) := fun a U g mk q => by
  obtain ⟨q0, qP, qK, qN⟩ := q
  exact ⟨q0, qP, va_K.moved (u := U) (U := U.calling g mk a) (Vm.Alike.refl U.vm) qK, mo_N.same (s := U) (U := U.calling g mk a) rfl qN⟩
theorem mo_blindM {av : List Value} {D : va_G} {tys : List (ClassId × FieldType)} {ws : va_W} : FrameBlind (va_Pc av (mo_Pm D tys ws)) := fun a U g mk q => by
  obtain ⟨q0, qP, qK, qN, qD⟩ := q
  exact ⟨q0, qP, va_K.moved (u := U) (U := U.calling g mk a) (Vm.Alike.refl U.vm) qK, mo_N.same (s := U) (U := U.calling g mk a) rfl qN, qD⟩
theorem mo_P0 {D : va_G} {H : Heap} : va_P D cl [] H := fun k q h => by cases h
theorem mo_self {ws : va_W} (h : va_D (fun _ => True) ws) : va_D (mo_A ws) ws := ⟨h.1, fun k q hq => ⟨k, q.2, hq⟩⟩
theorem mo_start {l : Launch} {y : MethodName} {b : ByteArray} {maxL : Nat} {ret : Option FieldType} {rm : Room} {av : List Value} {B : State → Prop} {Qc : Array Value → State → Outcome → State → Prop} {mc ms : Nat} {free : Addr → Prop} (hy : plainName y.cls = true) (hav : (lg_sl av).length ≤ maxL)
    (body : ∀ (p : Program) (e : Env) (s : State) (m : MethodId) (args : Array Value) (below : List Frame) (meth : Method) (c : Code), p.tables.exec = Jvm.exec → c.code = b → meth.sig.returnType = ret → meth.locks = false → c.maxLocals = maxL → s.vm.findClass y.cls = some m.cls → (∀ w ∈ WG, w.before args s = true) → B s → ∀ ls : Array Slot, lv_has ls maxL (lv_args 0 av) → ∀ Q : State → Prop, MQ below Qc args s mc ms free = Q → W p l e rm s m args below meth c s.heap [] 0 0 Q (F0 m 0 ls [])) : Met l y (Cond.code y b maxL ret :: WG) rm (va_Pc av B) Qc mc ms free := by
  refine Met.ofW (cc := b) (maxL := maxL) (ret := ret) hy rfl ?_
  intro p e s m args below meth c s₁ B1 hml hv
  obtain ⟨rfl, hv⟩ := hv
  have hts := atoms_spec (ws := Cond.code y b maxL ret :: WG) B1.pre
  have hl := lv_entry av (n := maxL) hav
  rw [lg_entry_eq]
  exact body p e s m _ below meth c B1.exec B1.bytes B1.returns B1.notSynchronized hml (findClass_of_methodNamed B1.named) (fun w h => hts w (List.mem_cons_of_mem _ h)) hv _ hl _ rfl
/-- cells put back at their places -/
def mo_put : va_W → List Nat → va_W → va_W
  | ws, i :: is, x :: xs => mo_put (ws.set i x) is xs
  | ws, _, _ => ws
theorem mo_put_at (is : List Nat) : ∀ (ws w1 : va_W), is.length = w1.length → ∀ (k : Nat) (q : Nat × va_E), (mo_put ws is w1)[k]? = some q → (∃ j : Nat, is[j]? = some k ∧ w1[j]? = some q) ∨ (k ∉ is ∧ ws[k]? = some q) := by
  induction is with
  | nil =>
    intro ws w1 _ k q h
    have h : ws[k]? = some q := by cases w1 <;> exact h
    exact Or.inr ⟨by simp, h⟩
  | cons i is ih =>
    intro ws w1 hlen k q h
    cases w1 with
    | nil => simp at hlen
    | cons x xs =>
      have h : (mo_put (ws.set i x) is xs)[k]? = some q := h
      rcases ih (ws.set i x) xs (by simpa using hlen) k q h with ⟨j, h1, h2⟩ | ⟨h1, h2⟩
      · exact Or.inl ⟨j + 1, by simpa using h1, by simpa using h2⟩
      · by_cases hk : k = i
        · subst hk
          by_cases hl : k < ws.length
          · rw [List.getElem?_set_self hl] at h2
            exact Or.inl ⟨0, rfl, h2⟩
          · have hz : (ws.set k x)[k]? = none := List.getElem?_eq_none (by rw [List.length_set]; omega)
            rw [hz] at h2
            cases h2
        · rw [List.getElem?_set_ne (Ne.symm hk)] at h2
          exact Or.inr ⟨by simp [hk, h1], h2⟩
theorem mo_set_fst {ws : va_W} {i : Nat} {x : Nat × va_E} (h : (ws.map Prod.fst)[i]? = some x.1) : (ws.set i x).map Prod.fst = ws.map Prod.fst := by
  apply List.ext_getElem?
  intro j
  by_cases hj : j = i
  · subst hj
    have hl : j < ws.length := by
      have := (List.getElem?_eq_some_iff.mp h).1
      simpa using this
    rw [h, List.getElem?_map, List.getElem?_set_self hl]
    rfl
  · rw [List.getElem?_map, List.getElem?_map, List.getElem?_set_ne (Ne.symm hj)]
theorem mo_put_fst (is : List Nat) : ∀ (ws w1 : va_W), is.map (fun i => (ws.map Prod.fst)[i]?) = (w1.map Prod.fst).map some → (mo_put ws is w1).map Prod.fst = ws.map Prod.fst := by
  induction is with
  | nil => intro ws w1 _; cases w1 <;> rfl
  | cons i is ih =>
    intro ws w1 h
    cases w1 with
    | nil => rfl
    | cons x xs =>
      simp only [List.map_cons, List.cons.injEq] at h
      obtain ⟨h1, h2⟩ := h
      have e := mo_set_fst h1
      show (mo_put (ws.set i x) is xs).map Prod.fst = _
      rw [ih (ws.set i x) xs (by rw [e]; exact h2), e]
theorem mo_D_fst {A : Nat → Prop} {ws ws' : va_W} (hD : va_D A ws) (h : ws'.map Prod.fst = ws.map Prod.fst) : va_D A ws' := by
  have at' : ∀ (i : Nat) (p : Nat × va_E), ws'[i]? = some p → ∃ p' : Nat × va_E, ws[i]? = some p' ∧ p'.1 = p.1 := by
    intro i p hp
    have h1 : (ws'.map Prod.fst)[i]? = some p.1 := by rw [List.getElem?_map, hp]; rfl
    rw [h, List.getElem?_map] at h1
    cases hw : ws[i]? with
    | none => rw [hw] at h1; cases h1
    | some p' => rw [hw] at h1; exact ⟨p', rfl, Option.some.inj h1⟩
  refine ⟨fun i j p q hp hq e => ?_, fun k q hk => ?_⟩
  · obtain ⟨p', h1, e1⟩ := at' i p hp
    obtain ⟨q', h2, e2⟩ := at' j q hq
    exact hD.1 i j p' q' h1 h2 (by rw [e1, e2]; exact e)
  · obtain ⟨q', h1, e1⟩ := at' k q hk
    rw [← e1]
    exact hD.2 k q' h1
theorem mo_pick {ws wc : va_W} {is : List Nat} (hC : is.map (fun i => ws[i]?) = wc.map some) {k : Nat} {q : Nat × va_E} (hq : wc[k]? = some q) : ∃ i : Nat, is[k]? = some i ∧ ws[i]? = some q := by
  have h1 : (is.map (fun i => ws[i]?))[k]? = some (some q) := by rw [hC, List.getElem?_map, hq]; rfl
  rw [List.getElem?_map] at h1
  cases hi : is[k]? with
  | none => rw [hi] at h1; cases h1
  | some i => rw [hi] at h1; exact ⟨i, rfl, Option.some.inj h1⟩
theorem mo_back {A : Nat → Prop} {D : va_G} {ws wc w1 : va_W} {H H1 : Heap} (hP : va_P D cl ws H) (hD : va_D A ws) (is : List Nat) (hC : is.map (fun i => ws[i]?) = wc.map some) (hfst : w1.map Prod.fst = wc.map Prod.fst) (hk : ∀ q : Nat, q < H.size → ¬ mo_A wc q → H1[q]? = H[q]?) (hP1 : va_P D cl w1 H1) : va_P D cl (mo_put ws is w1) H1 ∧ va_D A (mo_put ws is w1) := by
  have hlen : is.length = w1.length := by
    have h1 := congrArg List.length hC
    have h2 := congrArg List.length hfst
    simp only [List.length_map] at h1 h2
    omega
  have hf : is.map (fun i => (ws.map Prod.fst)[i]?) = (w1.map Prod.fst).map some := by
    rw [hfst]
    have h := congrArg (List.map (Option.map Prod.fst)) hC
    simp only [List.map_map] at h ⊢
    have e1 : (Option.map Prod.fst ∘ fun (i : Nat) => ws[i]?) = (fun (i : Nat) => (ws.map Prod.fst)[i]?) := by
      funext i
      simp [List.getElem?_map]
    have e2 : (Option.map Prod.fst ∘ (some : Nat × va_E → Option (Nat × va_E))) = ((some : Nat → Option Nat) ∘ Prod.fst) := by
      funext i
      rfl
    rw [e1, e2] at h
    exact h
  refine ⟨fun k q hq => ?_, mo_D_fst hD (mo_put_fst is ws w1 hf)⟩
  rcases mo_put_at is ws w1 hlen k q hq with ⟨j, h1, h2⟩ | ⟨h1, h2⟩
  · exact hP1 j q h2
  · have hat := hP k q h2
    refine hat.kept (hk q.1 hat.lt (fun h => ?_))
    obtain ⟨j, e, hj⟩ := h
    obtain ⟨i, h3, h4⟩ := mo_pick hC hj
    have hki := hD.1 k i q (q.1, e) h2 h4 rfl
    subst hki
    exact h1 (List.mem_of_getElem? h3)
/-- the same in one pass: for each place the number of the cell that comes there, or none -/
def mo_mix : va_W → List (Option Nat) → va_W → va_W
  | q :: ws, some j :: js, w1 => w1.getD j q :: mo_mix ws js w1
  | q :: ws, none :: js, w1 => q :: mo_mix ws js w1
  | ws, _, _ => ws
def mo_ck (is : List Nat) (js : List (Option Nat)) : Bool := is.all (fun i => (js.getD i none).isSome) && (List.range js.length).all (fun k => match js.getD k none with
  | some j => is.getD j js.length == k
  | none => true)
theorem mo_mix_A (w1 : va_W) : ∀ (ws : va_W) (js : List (Option Nat)) (k j : Nat) (q : Nat × va_E), js[k]? = some (some j) → ws[k]? = some q → (mo_mix ws js w1)[k]? = some (w1.getD j q) := by
  intro ws
  induction ws with
  | nil => intro js k j q _ h; cases h
  | cons q0 ws ih =>
    intro js k j q h1 h2
    cases js with
    | nil => cases h1
    | cons x js =>
      cases k with
      | zero =>
        have e1 : x = some j := Option.some.inj h1
        have e2 : q0 = q := Option.some.inj h2
        subst e1
        subst e2
        rfl
      | succ k =>
        cases x with
        | none => exact ih js k j q h1 h2
        | some i => exact ih js k j q h1 h2
theorem mo_mix_B (w1 : va_W) : ∀ (ws : va_W) (js : List (Option Nat)) (k : Nat), (∀ j : Nat, js[k]? ≠ some (some j)) → (mo_mix ws js w1)[k]? = ws[k]? := by
  intro ws
  induction ws with
  | nil => intro js k _; rfl
  | cons q0 ws ih =>
    intro js k h
    cases js with
    | nil => rfl
    | cons x js =>
      cases k with
      | zero =>
        cases x with
        | none => rfl
        | some i => exact absurd rfl (h i)
      | succ k =>
        cases x with
        | none => exact ih js k h
        | some i => exact ih js k h
theorem mo_ck_in {is : List Nat} {js : List (Option Nat)} (h : mo_ck is js = true) {i : Nat} (hi : i ∈ is) : ∃ j : Nat, js[i]? = some (some j) := by
  unfold mo_ck at h
  rw [Bool.and_eq_true] at h
  have h1 := List.all_eq_true.mp h.1 i hi
  rw [List.getD_eq_getElem?_getD] at h1
  cases hx : js[i]? with
  | none => rw [hx] at h1; cases h1
  | some x =>
    rw [hx] at h1
    cases x with
    | none => cases h1
    | some j => exact ⟨j, rfl⟩
theorem mo_ck_at {is : List Nat} {js : List (Option Nat)} (h : mo_ck is js = true) {k j : Nat} (hj : js[k]? = some (some j)) : is[j]? = some k := by
  unfold mo_ck at h
  rw [Bool.and_eq_true] at h
  have hk : k < js.length := (List.getElem?_eq_some_iff.mp hj).1
  have h1 := List.all_eq_true.mp h.2 k (List.mem_range.mpr hk)
  rw [List.getD_eq_getElem?_getD, hj] at h1
  have h2 : is.getD j js.length = k := by simpa using h1
  rw [List.getD_eq_getElem?_getD] at h2
  cases hx : is[j]? with
  | none => rw [hx] at h2; simp at h2; omega
  | some x => rw [hx] at h2; simp at h2; rw [h2]
theorem mo_back2 {A : Nat → Prop} {D : va_G} {ws wc w1 : va_W} {H H1 : Heap} (hP : va_P D cl ws H) (hD : va_D A ws) (is : List Nat) (js : List (Option Nat)) (hck : mo_ck is js = true) (hC : is.map (fun i => ws[i]?) = wc.map some) (hfst : w1.map Prod.fst = wc.map Prod.fst) (hk : ∀ q : Nat, q < H.size → ¬ mo_A wc q → H1[q]? = H[q]?) (hP1 : va_P D cl w1 H1) : va_P D cl (mo_mix ws js w1) H1 ∧ va_D A (mo_mix ws js w1) := by
  have hlen : is.length = w1.length := by
    have h1 := congrArg List.length hC
    have h2 := congrArg List.length hfst
    simp only [List.length_map] at h1 h2
    omega
  have key : ∀ (k j : Nat), js[k]? = some (some j) → ∃ (x y : Nat × va_E), w1[j]? = some x ∧ ws[k]? = some y ∧ x.1 = y.1 := by
    intro k j hj
    have hi := mo_ck_at hck hj
    have hjl : j < is.length := (List.getElem?_eq_some_iff.mp hi).1
    have e1 : (is.map (fun i => ws[i]?))[j]? = some ws[k]? := by rw [List.getElem?_map, hi]; rfl
    rw [hC, List.getElem?_map] at e1
    cases hwc : wc[j]? with
    | none => rw [hwc] at e1; cases e1
    | some z =>
      rw [hwc] at e1
      have e2 : some z = ws[k]? := Option.some.inj e1
      have hw1 : j < w1.length := by omega
      refine ⟨w1[j], z, List.getElem?_eq_getElem hw1, e2.symm, ?_⟩
      have e3 : (w1.map Prod.fst)[j]? = (wc.map Prod.fst)[j]? := by rw [hfst]
      rw [List.getElem?_map, List.getElem?_map, hwc, List.getElem?_eq_getElem hw1] at e3
      exact Option.some.inj e3
  have hB : ∀ k : Nat, (∀ j : Nat, js[k]? ≠ some (some j)) → k ∉ is := by
    intro k h hk2
    obtain ⟨j, hj⟩ := mo_ck_in hck hk2
    exact h j hj
  have hat : ∀ (k : Nat) (q : Nat × va_E), (mo_mix ws js w1)[k]? = some q → (∃ j : Nat, w1[j]? = some q ∧ ∃ y : Nat × va_E, ws[k]? = some y ∧ q.1 = y.1) ∨ (k ∉ is ∧ ws[k]? = some q) := by
    intro k q hq
    by_cases h : ∃ j : Nat, js[k]? = some (some j)
    · obtain ⟨j, hj⟩ := h
      obtain ⟨x, y, h1, h2, h3⟩ := key k j hj
      have h4 := mo_mix_A w1 ws js k j y hj h2
      rw [hq, List.getD_eq_getElem?_getD, h1] at h4
      have h5 : q = x := Option.some.inj h4
      subst h5
      exact Or.inl ⟨j, h1, y, h2, h3⟩
    · have h2 : ∀ j : Nat, js[k]? ≠ some (some j) := fun j hj => h ⟨j, hj⟩
      rw [mo_mix_B w1 ws js k h2] at hq
      exact Or.inr ⟨hB k h2, hq⟩
  refine ⟨fun k q hq => ?_, ?_, ?_⟩
  · rcases hat k q hq with ⟨j, h1, -⟩ | ⟨h1, h2⟩
    · exact hP1 j q h1
    · have ha := hP k q h2
      refine ha.kept (hk q.1 ha.lt (fun h => ?_))
      obtain ⟨j, e, hj⟩ := h
      obtain ⟨i, h3, h4⟩ := mo_pick hC hj
      have hki := hD.1 k i q (q.1, e) h2 h4 rfl
      subst hki
      exact h1 (List.mem_of_getElem? h3)
  · intro i j x y hi hj hxy
    have ad : ∀ (k : Nat) (q : Nat × va_E), (mo_mix ws js w1)[k]? = some q → ∃ y : Nat × va_E, ws[k]? = some y ∧ q.1 = y.1 := by
      intro k q hq
      rcases hat k q hq with ⟨_, _, h⟩ | ⟨_, h⟩
      · exact h
      · exact ⟨q, h, rfl⟩
    obtain ⟨x', h1, e1⟩ := ad i x hi
    obtain ⟨y', h2, e2⟩ := ad j y hj
    exact hD.1 i j x' y' h1 h2 (by rw [← e1, ← e2]; exact hxy)
  · intro k q hq
    rcases hat k q hq with ⟨_, _, y, h1, h2⟩ | ⟨_, h⟩
    · rw [h2]; exact hD.2 k y h1
    · exact hD.2 k q h
section MO
variable {p : Program} {l : Launch} {e : Env} {R : Room} {s : State} {m : MethodId} {args : Array Value} {below : List Frame} {meth : Method} {c : Code} {H : Heap} {locs : List Loc} {cells slots : Nat} {Q : State → Prop}
variable {cc : ByteArray} {pc : Nat} {ls : Array Slot} {rest : List Value} {D : va_G} {A : Nat → Prop} {a : Nat} {tys : List (ClassId × FieldType)} {ws : va_W} {H0 : Heap}
theorem mo_iald (hexec : p.tables.exec = Jvm.exec) (hb : c.code = cc) (hK : va_K D cl tys s) (hP : va_P D cl ws H) (q0 t0 : Nat) {cA : ClassId} {n : Nat} {f : Nat → Int32} (ha : ws[q0]? = some (a, .inl (cA, n, .inl f))) (ht : tys[t0]? = some (cA, .int)) {i v : Int32} (hin : vp_in i n) (hv : f i.toNatClampNeg = v) (hdg : decode cc pc = .ok (.iaload, 1))
    (kk : W p l e R s m args below meth c H locs cells slots Q (F0 m (pc + 1) ls (.int v :: rest))) : W p l e R s m args below meth c H locs cells slots Q (F0 m pc ls (.int i :: .ref a :: rest)) := by
  subst hv
  exact va_iald hexec hb hK hP q0 t0 ha ht hin hdg kk
theorem mo_zald (hexec : p.tables.exec = Jvm.exec) (hb : c.code = cc) (hK : va_K D cl tys s) (hP : va_P D cl ws H) (q0 t0 : Nat) {cA : ClassId} {n : Nat} {f : Nat → Int32} (ha : ws[q0]? = some (a, .inl (cA, n, .inl f))) (ht : tys[t0]? = some (cA, .boolean)) {i v : Int32} (hin : vp_in i n) (hv : f i.toNatClampNeg = v) (hdg : decode cc pc = .ok (.baload, 1))
    (kk : W p l e R s m args below meth c H locs cells slots Q (F0 m (pc + 1) ls (.int v :: rest))) : W p l e R s m args below meth c H locs cells slots Q (F0 m pc ls (.int i :: .ref a :: rest)) := by
  subst hv
  exact va_zald hexec hb hK hP q0 t0 ha ht hin hdg kk
theorem mo_lald (hexec : p.tables.exec = Jvm.exec) (hb : c.code = cc) (hK : va_K D cl tys s) (hP : va_P D cl ws H) (q0 t0 : Nat) {cA : ClassId} {n : Nat} {f : Nat → Int64} (ha : ws[q0]? = some (a, .inl (cA, n, .inr (.inl f)))) (ht : tys[t0]? = some (cA, .long)) {i : Int32} {v : Int64} (hin : vp_in i n) (hv : f i.toNatClampNeg = v) (hdg : decode cc pc = .ok (.laload, 1))
    (kk : W p l e R s m args below meth c H locs cells slots Q (F0 m (pc + 1) ls (.long v :: rest))) : W p l e R s m args below meth c H locs cells slots Q (F0 m pc ls (.int i :: .ref a :: rest)) := by
  subst hv
  exact va_lald hexec hb hK hP q0 t0 ha ht hin hdg kk
theorem mo_iast (hexec : p.tables.exec = Jvm.exec) (hb : c.code = cc) (hK : va_K D cl tys s) (hP : va_P D cl ws H) (hD : va_D A ws) (hS : va_S A H0 H locs) (q0 t0 : Nat) {cA : ClassId} {n : Nat} {f g : Nat → Int32} (ha : ws[q0]? = some (a, .inl (cA, n, .inl f))) (ht : tys[t0]? = some (cA, .int)) {i x : Int32} (hin : vp_in i n) (hg : upd f i.toNatClampNeg x = g) (hdg : decode cc pc = .ok (.iastore, 1))
    (kk : ∀ (H1 : Heap) (locs1 : List Loc), va_P D cl (ws.set q0 (a, .inl (cA, n, .inl g))) H1 → va_D A (ws.set q0 (a, .inl (cA, n, .inl g))) → va_S A H0 H1 locs1 → W p l e R s m args below meth c H1 locs1 cells slots Q (F0 m (pc + 1) ls rest)) : W p l e R s m args below meth c H locs cells slots Q (F0 m pc ls (.int x :: .int i :: .ref a :: rest)) := by
  subst hg
  exact va_iast hexec hb hK hP hD hS q0 t0 ha ht hin hdg kk
theorem mo_zast (hexec : p.tables.exec = Jvm.exec) (hb : c.code = cc) (hK : va_K D cl tys s) (hP : va_P D cl ws H) (hD : va_D A ws) (hS : va_S A H0 H locs) (q0 t0 : Nat) {cA : ClassId} {n : Nat} {f g : Nat → Int32} (ha : ws[q0]? = some (a, .inl (cA, n, .inl f))) (ht : tys[t0]? = some (cA, .boolean)) {i x : Int32} (hin : vp_in i n) (hg : upd f i.toNatClampNeg (vp_nar .boolean x) = g) (hdg : decode cc pc = .ok (.bastore, 1))
    (kk : ∀ (H1 : Heap) (locs1 : List Loc), va_P D cl (ws.set q0 (a, .inl (cA, n, .inl g))) H1 → va_D A (ws.set q0 (a, .inl (cA, n, .inl g))) → va_S A H0 H1 locs1 → W p l e R s m args below meth c H1 locs1 cells slots Q (F0 m (pc + 1) ls rest)) : W p l e R s m args below meth c H locs cells slots Q (F0 m pc ls (.int x :: .int i :: .ref a :: rest)) := by
  subst hg
  exact va_zast hexec hb hK hP hD hS q0 t0 ha ht hin hdg kk
theorem mo_last (hexec : p.tables.exec = Jvm.exec) (hb : c.code = cc) (hK : va_K D cl tys s) (hP : va_P D cl ws H) (hD : va_D A ws) (hS : va_S A H0 H locs) (q0 t0 : Nat) {cA : ClassId} {n : Nat} {f g : Nat → Int64} (ha : ws[q0]? = some (a, .inl (cA, n, .inr (.inl f)))) (ht : tys[t0]? = some (cA, .long)) {i : Int32} {x : Int64} (hin : vp_in i n) (hg : vp_updL f i.toNatClampNeg x = g) (hdg : decode cc pc = .ok (.lastore, 1))
    (kk : ∀ (H1 : Heap) (locs1 : List Loc), va_P D cl (ws.set q0 (a, .inl (cA, n, .inr (.inl g)))) H1 → va_D A (ws.set q0 (a, .inl (cA, n, .inr (.inl g)))) → va_S A H0 H1 locs1 → W p l e R s m args below meth c H1 locs1 cells slots Q (F0 m (pc + 1) ls rest)) : W p l e R s m args below meth c H locs cells slots Q (F0 m pc ls (.long x :: .int i :: .ref a :: rest)) := by
  subst hg
  exact va_last hexec hb hK hP hD hS q0 t0 ha ht hin hdg kk
theorem mo_lcmpeq (hexec : p.tables.exec = Jvm.exec) (hb : c.code = cc) {x y : Int64} {off : Int} {tgt : Nat} (h1 : decode cc pc = .ok (.lcmp, 1)) (h2 : decode cc (pc + 1) = .ok (.ifCond .eq off, 3)) (ht : ((pc + 1 : Nat) : Int) + off = (tgt : Int))
    (kt : x = y → W p l e R s m args below meth c H locs cells slots Q (F0 m tgt ls rest)) (kf : ¬ x = y → W p l e R s m args below meth c H locs cells slots Q (F0 m (pc + 1 + 3) ls rest)) : W p l e R s m args below meth c H locs cells slots Q (F0 m pc ls (.long y :: .long x :: rest)) :=
  W.lcmp hexec hb h1 (lv_if_eq hexec hb h2 ht (fun h => kt ((lg_cmp_eq x y).mp h)) (fun h => kf (fun e => h ((lg_cmp_eq x y).mpr e))))
theorem mo_lcmpne (hexec : p.tables.exec = Jvm.exec) (hb : c.code = cc) {x y : Int64} {off : Int} {tgt : Nat} (h1 : decode cc pc = .ok (.lcmp, 1)) (h2 : decode cc (pc + 1) = .ok (.ifCond .ne off, 3)) (ht : ((pc + 1 : Nat) : Int) + off = (tgt : Int))
    (kt : ¬ x = y → W p l e R s m args below meth c H locs cells slots Q (F0 m tgt ls rest)) (kf : x = y → W p l e R s m args below meth c H locs cells slots Q (F0 m (pc + 1 + 3) ls rest)) : W p l e R s m args below meth c H locs cells slots Q (F0 m pc ls (.long y :: .long x :: rest)) :=
  W.lcmp hexec hb h1 (lv_if_ne hexec hb h2 ht (fun h => kt (fun e => h ((lg_cmp_eq x y).mpr e))) (fun h => kf ((lg_cmp_eq x y).mp h)))
/-! returns: of a method that reads, of one that writes -/
theorem mo_retIr {x o : Int32} (hexec : p.tables.exec = Jvm.exec) (hb : c.code = cc) (hr : meth.sig.returnType = some .int) (hlocks : meth.locks = false) (hQ : MQ below (mo_Qr (some (.int o))) args s 0 0 (fun _ => False) = Q) (h : some x = some o) (hdg : decode cc pc = .ok (.ireturn, 1)) : W p l e R s m args below meth c s.heap [] 0 0 Q (F0 m pc ls [.int x]) := by
  cases h
  subst hQ
  exact W.iret hexec hb hr (fun t ht _ => ⟨rfl, ht⟩) (fun q hq => by cases hq) hdg
theorem mo_retZr {x o : Int32} (hz : narrow .boolean (.int x) = .int x) (hexec : p.tables.exec = Jvm.exec) (hb : c.code = cc) (hr : meth.sig.returnType = some .boolean) (hlocks : meth.locks = false) (hQ : MQ below (mo_Qr (some (.int o))) args s 0 0 (fun _ => False) = Q) (h : some x = some o) (hdg : decode cc pc = .ok (.ireturn, 1)) : W p l e R s m args below meth c s.heap [] 0 0 Q (F0 m pc ls [.int x]) := by
  cases h
  subst hQ
  exact W.zret hexec hb hr hz (fun t ht _ => ⟨rfl, ht⟩) (fun q hq => by cases hq) hdg
theorem mo_retLr {x o : Int64} (hexec : p.tables.exec = Jvm.exec) (hb : c.code = cc) (hr : meth.sig.returnType = some .long) (hlocks : meth.locks = false) (hQ : MQ below (mo_Qr (some (.long o))) args s 0 0 (fun _ => False) = Q) (h : some x = some o) (hdg : decode cc pc = .ok (.lreturn, 1)) : W p l e R s m args below meth c s.heap [] 0 0 Q (F0 m pc ls [.long x]) := by
  cases h
  subst hQ
  exact W.lret hexec hb hr (fun t ht _ => ⟨rfl, ht⟩) (fun q hq => by cases hq) hdg
theorem mo_retIm {α : Type} {o o1 : α} {w0 : va_W} {wf : α → va_W} {rv : α → Option Value} {x : Int32} (hexec : p.tables.exec = Jvm.exec) (hb : c.code = cc) (hr : meth.sig.returnType = some .int) (hlocks : meth.locks = false) (hQ : MQ below (mo_Qm D w0 wf rv o) args s 0 0 (mo_A w0) = Q) (hA2 : A = mo_A w0) (h : some o1 = some o) (hP : va_P D cl (wf o1) H) (hS : va_S A s.heap H locs) (hdg : decode cc pc = .ok (.ireturn, 1)) (hv : rv o1 = some (.int x)) : W p l e R s m args below meth c H locs 0 0 Q (F0 m pc ls [.int x]) := by
  cases h
  subst hQ
  subst hA2
  exact W.iret hexec hb hr (fun t ht _ => ⟨by rw [hv], by rw [ht]; exact hP, hS.F ht⟩) hS.2.2 hdg
theorem mo_retZm {α : Type} {o o1 : α} {w0 : va_W} {wf : α → va_W} {rv : α → Option Value} {x : Int32} (hz : narrow .boolean (.int x) = .int x) (hexec : p.tables.exec = Jvm.exec) (hb : c.code = cc) (hr : meth.sig.returnType = some .boolean) (hlocks : meth.locks = false) (hQ : MQ below (mo_Qm D w0 wf rv o) args s 0 0 (mo_A w0) = Q) (hA2 : A = mo_A w0) (h : some o1 = some o) (hP : va_P D cl (wf o1) H) (hS : va_S A s.heap H locs) (hdg : decode cc pc = .ok (.ireturn, 1)) (hv : rv o1 = some (.int x)) : W p l e R s m args below meth c H locs 0 0 Q (F0 m pc ls [.int x]) := by
  cases h
  subst hQ
  subst hA2
  exact W.zret hexec hb hr hz (fun t ht _ => ⟨by rw [hv], by rw [ht]; exact hP, hS.F ht⟩) hS.2.2 hdg
theorem mo_retLm {α : Type} {o o1 : α} {w0 : va_W} {wf : α → va_W} {rv : α → Option Value} {x : Int64} (hexec : p.tables.exec = Jvm.exec) (hb : c.code = cc) (hr : meth.sig.returnType = some .long) (hlocks : meth.locks = false) (hQ : MQ below (mo_Qm D w0 wf rv o) args s 0 0 (mo_A w0) = Q) (hA2 : A = mo_A w0) (h : some o1 = some o) (hP : va_P D cl (wf o1) H) (hS : va_S A s.heap H locs) (hdg : decode cc pc = .ok (.lreturn, 1)) (hv : rv o1 = some (.long x)) : W p l e R s m args below meth c H locs 0 0 Q (F0 m pc ls [.long x]) := by
  cases h
  subst hQ
  subst hA2
  exact W.lret hexec hb hr (fun t ht _ => ⟨by rw [hv], by rw [ht]; exact hP, hS.F ht⟩) hS.2.2 hdg
theorem mo_retVm {α : Type} {o o1 : α} {w0 : va_W} {wf : α → va_W} {rv : α → Option Value} (hexec : p.tables.exec = Jvm.exec) (hb : c.code = cc) (hr : meth.sig.returnType = none) (hlocks : meth.locks = false) (hQ : MQ below (mo_Qm D w0 wf rv o) args s 0 0 (mo_A w0) = Q) (hA2 : A = mo_A w0) (h : some o1 = some o) (hP : va_P D cl (wf o1) H) (hS : va_S A s.heap H locs) (hdg : decode cc pc = .ok (.return_, 1)) (hv : rv o1 = none) : W p l e R s m args below meth c H locs 0 0 Q (F0 m pc ls []) := by
  cases h
  subst hQ
  subst hA2
  exact W.vret hexec hb hr (fun t ht _ => ⟨by rw [hv], by rw [ht]; exact hP, hS.F ht⟩) hS.2.2 hdg
/-! calls -/
variable {y : MethodName} {bytes : ByteArray} {maxL nL n index : Nat} {ret : Option FieldType} {wsW : List Cond} {rm : Room} {Ts : List Cond} {own C : String} {b : Nat} {As st0 st1 : List Value} {wc : va_W} {free : Addr → Prop}
theorem mo_rd {v : Option Value} {a0 : Array Value} (hr : CallRun p l e R s m args below meth c H locs cells slots 0 0 (F0 m pc ls st0) rest (mo_Qr v a0) (fun _ => False)) (h1 : v.toList ++ rest = st1)
    (kk : W p l e R s m args below meth c H locs cells slots Q (F0 m (pc + 3) ls st1)) : W p l e R s m args below meth c H locs cells slots Q (F0 m pc ls st0) := by
  subst h1
  intro T hT X
  obtain ⟨v1, st₀, t, T', L, h0, X', hL, e1, ⟨hv, hh⟩, st⟩ := hr T hT X
  cases hv
  obtain ⟨t2, a1, b1⟩ := kk T' (by rw [e1, hh, h0]) (Stand.forget X' (fun q h => (hL q h).elim))
  exact ⟨t2, st t2 a1, b1⟩
theorem mo_rVg {v : Option Value} (S : CallFix p m c cc nL s args Ts own) (hM : Met l y wsW rm (va_Pc (.ref b :: As) (mo_Pr D tys wc)) (mo_Qr v) 0 0 (fun _ => False)) (cw : CallW R s args own C index y bytes maxL ret wsW rm 0 0 n) (hP : va_P D cl wc H) (hK : va_K D cl tys s) (hN : mo_N s) {ci N : Nat} {fs : List Value} {T : u_T} (he : wc[0]? = some (b, .inr (ci, fs))) (hc : cl[ci]? = some (C, T, N)) (hn : As.length = n) (hsz : ls.size = nL) (hst : st0 = As.reverse ++ .ref b :: rest) (hW : Nat.ble (rest.map fun v => v.category).sum 8 = true) (hdg : decode cc pc = .ok (.invokevirtual index, 3)) (h1 : v.toList ++ rest = st1) (hf : cells ≤ R.cells ∧ slots ≤ R.slots)
    (kk : W p l e R s m args below meth c H locs cells slots Q (F0 m (pc + 3) ls st1)) : W p l e R s m args below meth c H locs cells slots Q (F0 m pc ls st0) :=
  mo_rd (W.runV (As := As) (rest := rest) (g := F0 m pc ls st0) S hM cw ⟨mo_blindR, va_recv hK hP hc he, fun U hU hW => ⟨rfl, by rw [hU]; exact hP, va_K.moved hW.alike hK, hN.warm hW⟩⟩ rfl hn hsz hst (lv_room (Nat.le_of_ble_eq_true hW)) hdg hf) h1 kk
theorem mo_rV {v : Option Value} (S : CallFix p m c cc nL s args Ts own) (hM : Met l y wsW rm (va_Pc (.ref b :: As) (mo_Pr D tys wc)) (mo_Qr v) 0 0 (fun _ => False)) (cw : CallW R s args own C index y bytes maxL ret wsW rm 0 0 n) (hP : va_P D cl wc H) (hK : va_K D cl tys s) (hN : mo_N s) {ci N : Nat} {fs : List Value} {T : u_T} (he : wc[0]? = some (b, .inr (ci, fs))) (hc : cl[ci]? = some (C, T, N)) (hn : As.length = n) (hsz : ls.size = nL) (hst : st0 = As.reverse ++ .ref b :: rest) (hW : Nat.ble (rest.map fun v => v.category).sum 8 = true) (hdg : decode cc pc = .ok (.invokevirtual index, 3)) (h1 : v.toList ++ rest = st1)
    (kk : W p l e R s m args below meth c H locs 0 0 Q (F0 m (pc + 3) ls st1)) : W p l e R s m args below meth c H locs 0 0 Q (F0 m pc ls st0) :=
  mo_rVg S hM cw hP hK hN he hc hn hsz hst hW hdg h1 ⟨Nat.zero_le _, Nat.zero_le _⟩ kk
theorem mo_rSg {v : Option Value} (S : CallFix p m c cc nL s args Ts own) (hM : Met l y wsW rm (va_Pc As (mo_Pr D tys wc)) (mo_Qr v) 0 0 (fun _ => False)) (cw : CallB R s args own index y bytes maxL ret wsW rm 0 0 n ∧ (Cond.static y).before args s = true) (hP : va_P D cl wc H) (hK : va_K D cl tys s) (hN : mo_N s) (hn : As.length = n) (hsz : ls.size = nL) (hst : st0 = As.reverse ++ rest) (hW : Nat.ble (rest.map fun v => v.category).sum 8 = true) (hdg : decode cc pc = .ok (.invokestatic index, 3)) (h1 : v.toList ++ rest = st1) (hf : cells ≤ R.cells ∧ slots ≤ R.slots)
    (kk : W p l e R s m args below meth c H locs cells slots Q (F0 m (pc + 3) ls st1)) : W p l e R s m args below meth c H locs cells slots Q (F0 m pc ls st0) :=
  mo_rd (W.runS (As := As) (rest := rest) (g := F0 m pc ls st0) S hM cw ⟨mo_blindR, fun U hU hW => ⟨rfl, by rw [hU]; exact hP, va_K.moved hW.alike hK, hN.warm hW⟩⟩ rfl hn hsz hst (lv_room (Nat.le_of_ble_eq_true hW)) hdg hf) h1 kk
theorem mo_rS {v : Option Value} (S : CallFix p m c cc nL s args Ts own) (hM : Met l y wsW rm (va_Pc As (mo_Pr D tys wc)) (mo_Qr v) 0 0 (fun _ => False)) (cw : CallB R s args own index y bytes maxL ret wsW rm 0 0 n ∧ (Cond.static y).before args s = true) (hP : va_P D cl wc H) (hK : va_K D cl tys s) (hN : mo_N s) (hn : As.length = n) (hsz : ls.size = nL) (hst : st0 = As.reverse ++ rest) (hW : Nat.ble (rest.map fun v => v.category).sum 8 = true) (hdg : decode cc pc = .ok (.invokestatic index, 3)) (h1 : v.toList ++ rest = st1)
    (kk : W p l e R s m args below meth c H locs 0 0 Q (F0 m (pc + 3) ls st1)) : W p l e R s m args below meth c H locs 0 0 Q (F0 m pc ls st0) :=
  mo_rSg S hM cw hP hK hN hn hsz hst hW hdg h1 ⟨Nat.zero_le _, Nat.zero_le _⟩ kk
theorem mo_rSNg {v : Option Value} {host : String} (S : CallFix p m c cc nL s args Ts own) (hM : Met l y wsW rm (va_Pc As (mo_Pr D tys wc)) (mo_Qr v) 0 0 (fun _ => False)) (cw : va_CN R s args own index y host bytes maxL ret wsW rm 0 0 n ∧ (Cond.static y).before args s = true ∧ True) (hP : va_P D cl wc H) (hK : va_K D cl tys s) (hN : mo_N s) (hn : As.length = n) (hsz : ls.size = nL) (hst : st0 = As.reverse ++ rest) (hW : Nat.ble (rest.map fun v => v.category).sum 8 = true) (hdg : decode cc pc = .ok (.invokestatic index, 3)) (h1 : v.toList ++ rest = st1) (hf : cells ≤ R.cells ∧ slots ≤ R.slots)
    (kk : W p l e R s m args below meth c H locs cells slots Q (F0 m (pc + 3) ls st1)) : W p l e R s m args below meth c H locs cells slots Q (F0 m pc ls st0) :=
  mo_rd (va_runSN (As := As) (rest := rest) (g := F0 m pc ls st0) S hM cw ⟨mo_blindR, fun U hU hW => ⟨rfl, by rw [hU]; exact hP, va_K.moved hW.alike hK, hN.warm hW⟩⟩ rfl hn hsz hst (lv_room (Nat.le_of_ble_eq_true hW)) hdg hf).run h1 kk
theorem mo_rSN {v : Option Value} {host : String} (S : CallFix p m c cc nL s args Ts own) (hM : Met l y wsW rm (va_Pc As (mo_Pr D tys wc)) (mo_Qr v) 0 0 (fun _ => False)) (cw : va_CN R s args own index y host bytes maxL ret wsW rm 0 0 n ∧ (Cond.static y).before args s = true ∧ True) (hP : va_P D cl wc H) (hK : va_K D cl tys s) (hN : mo_N s) (hn : As.length = n) (hsz : ls.size = nL) (hst : st0 = As.reverse ++ rest) (hW : Nat.ble (rest.map fun v => v.category).sum 8 = true) (hdg : decode cc pc = .ok (.invokestatic index, 3)) (h1 : v.toList ++ rest = st1)
    (kk : W p l e R s m args below meth c H locs 0 0 Q (F0 m (pc + 3) ls st1)) : W p l e R s m args below meth c H locs 0 0 Q (F0 m pc ls st0) :=
  mo_rSNg S hM cw hP hK hN hn hsz hst hW hdg h1 ⟨Nat.zero_le _, Nat.zero_le _⟩ kk
theorem mo_wr {α : Type} {o : α} {wf : α → va_W} {rv : α → Option Value} {a0 : Array Value} (hr : CallRun p l e R s m args below meth c H locs cells slots 0 0 (F0 m pc ls st0) rest (mo_Qm D wc wf rv o a0) (mo_A wc)) (hP : va_P D cl ws H) (hD : va_D A ws) (hS : va_S A H0 H locs) (is : List Nat) (js : List (Option Nat)) (hck : mo_ck is js = true) (hC : is.map (fun i => ws[i]?) = wc.map some) (hfst : (wf o).map Prod.fst = wc.map Prod.fst) (h1 : (rv o).toList ++ rest = st1)
    (kk : ∀ (H1 : Heap) (locs1 : List Loc), va_P D cl (mo_mix ws js (wf o)) H1 → va_D A (mo_mix ws js (wf o)) → va_S A H0 H1 locs1 → W p l e R s m args below meth c H1 locs1 cells slots Q (F0 m (pc + 3) ls st1)) : W p l e R s m args below meth c H locs cells slots Q (F0 m pc ls st0) := by
  subst h1
  intro T hT X
  obtain ⟨v1, st₀, t, T', L, h0, X', hL, e1, ⟨hv, hP1, hz, hk⟩, st⟩ := hr T hT X
  cases hv
  rw [h0] at hz hk
  have hF : ∀ q : Nat, mo_A wc q → A q := by
    intro q h
    obtain ⟨k, e2, hk2⟩ := h
    obtain ⟨i, -, h4⟩ := mo_pick hC hk2
    exact hD.2 i _ h4
  obtain ⟨q1, q2⟩ := mo_back2 (H1 := T'.heap) hP hD is js hck hC hfst (fun q h1 h2 => by rw [e1]; exact hk q h1 h2) (by rw [e1]; exact hP1)
  obtain ⟨t2, a1, b1⟩ := kk T'.heap (locs ++ L) q1 q2 ⟨Nat.le_trans hS.1 (by rw [e1]; exact hz), fun q h1 h2 => by rw [e1, hk q (Nat.lt_of_lt_of_le h1 hS.1) (fun z => h2 (hF q z))]; exact hS.2.1 q h1 h2, fun q hq => by
      rcases List.mem_append.mp hq with h | h
      · exact hS.2.2 q h
      · exact hF _ (hL q h)⟩ T' rfl X'
  exact ⟨t2, st t2 a1, b1⟩
theorem mo_subP {is : List Nat} (hP : va_P D cl ws H) (hC : is.map (fun i => ws[i]?) = wc.map some) : va_P D cl wc H := fun k q hq => by
  obtain ⟨i, -, h⟩ := mo_pick hC hq
  exact hP i q h
theorem mo_mVg {α : Type} {o : α} {wf : α → va_W} {rv : α → Option Value} (S : CallFix p m c cc nL s args Ts own) (hM : Met l y wsW rm (va_Pc (.ref b :: As) (mo_Pm D tys wc)) (mo_Qm D wc wf rv o) 0 0 (mo_A wc)) (cw : CallW R s args own C index y bytes maxL ret wsW rm 0 0 n) (hP : va_P D cl ws H) (hD : va_D A ws) (hS : va_S A H0 H locs) (hK : va_K D cl tys s) (hN : mo_N s) (is : List Nat) (js : List (Option Nat)) (hck : mo_ck is js = true) (hnd : va_nd is = true) (hC : is.map (fun i => ws[i]?) = wc.map some) (hfst : (wf o).map Prod.fst = wc.map Prod.fst) {ci N : Nat} {fs : List Value} {T : u_T} (he : wc[0]? = some (b, .inr (ci, fs))) (hc : cl[ci]? = some (C, T, N)) (hn : As.length = n) (hsz : ls.size = nL) (hst : st0 = As.reverse ++ .ref b :: rest) (hW : Nat.ble (rest.map fun v => v.category).sum 8 = true) (hdg : decode cc pc = .ok (.invokevirtual index, 3)) (h1 : (rv o).toList ++ rest = st1) (hf : cells ≤ R.cells ∧ slots ≤ R.slots)
    (kk : ∀ (H1 : Heap) (locs1 : List Loc), va_P D cl (mo_mix ws js (wf o)) H1 → va_D A (mo_mix ws js (wf o)) → va_S A H0 H1 locs1 → W p l e R s m args below meth c H1 locs1 cells slots Q (F0 m (pc + 3) ls st1)) : W p l e R s m args below meth c H locs cells slots Q (F0 m pc ls st0) :=
  mo_wr (W.runV (As := As) (rest := rest) (g := F0 m pc ls st0) S hM cw ⟨mo_blindM, va_recv hK (mo_subP hP hC) hc he, fun U hU hW => ⟨rfl, by rw [hU]; exact mo_subP hP hC, va_K.moved hW.alike hK, hN.warm hW, (hD.sub is hnd hC).weaken (fun _ _ _ _ => trivial)⟩⟩ rfl hn hsz hst (lv_room (Nat.le_of_ble_eq_true hW)) hdg hf) hP hD hS is js hck hC hfst h1 kk
theorem mo_mV {α : Type} {o : α} {wf : α → va_W} {rv : α → Option Value} (S : CallFix p m c cc nL s args Ts own) (hM : Met l y wsW rm (va_Pc (.ref b :: As) (mo_Pm D tys wc)) (mo_Qm D wc wf rv o) 0 0 (mo_A wc)) (cw : CallW R s args own C index y bytes maxL ret wsW rm 0 0 n) (hP : va_P D cl ws H) (hD : va_D A ws) (hS : va_S A H0 H locs) (hK : va_K D cl tys s) (hN : mo_N s) (is : List Nat) (js : List (Option Nat)) (hck : mo_ck is js = true) (hnd : va_nd is = true) (hC : is.map (fun i => ws[i]?) = wc.map some) (hfst : (wf o).map Prod.fst = wc.map Prod.fst) {ci N : Nat} {fs : List Value} {T : u_T} (he : wc[0]? = some (b, .inr (ci, fs))) (hc : cl[ci]? = some (C, T, N)) (hn : As.length = n) (hsz : ls.size = nL) (hst : st0 = As.reverse ++ .ref b :: rest) (hW : Nat.ble (rest.map fun v => v.category).sum 8 = true) (hdg : decode cc pc = .ok (.invokevirtual index, 3)) (h1 : (rv o).toList ++ rest = st1)
    (kk : ∀ (H1 : Heap) (locs1 : List Loc), va_P D cl (mo_mix ws js (wf o)) H1 → va_D A (mo_mix ws js (wf o)) → va_S A H0 H1 locs1 → W p l e R s m args below meth c H1 locs1 0 0 Q (F0 m (pc + 3) ls st1)) : W p l e R s m args below meth c H locs 0 0 Q (F0 m pc ls st0) :=
  mo_mVg S hM cw hP hD hS hK hN is js hck hnd hC hfst he hc hn hsz hst hW hdg h1 ⟨Nat.zero_le _, Nat.zero_le _⟩ kk
theorem mo_mSg {α : Type} {o : α} {wf : α → va_W} {rv : α → Option Value} (S : CallFix p m c cc nL s args Ts own) (hM : Met l y wsW rm (va_Pc As (mo_Pm D tys wc)) (mo_Qm D wc wf rv o) 0 0 (mo_A wc)) (cw : CallB R s args own index y bytes maxL ret wsW rm 0 0 n ∧ (Cond.static y).before args s = true) (hP : va_P D cl ws H) (hD : va_D A ws) (hS : va_S A H0 H locs) (hK : va_K D cl tys s) (hN : mo_N s) (is : List Nat) (js : List (Option Nat)) (hck : mo_ck is js = true) (hnd : va_nd is = true) (hC : is.map (fun i => ws[i]?) = wc.map some) (hfst : (wf o).map Prod.fst = wc.map Prod.fst) (hn : As.length = n) (hsz : ls.size = nL) (hst : st0 = As.reverse ++ rest) (hW : Nat.ble (rest.map fun v => v.category).sum 8 = true) (hdg : decode cc pc = .ok (.invokestatic index, 3)) (h1 : (rv o).toList ++ rest = st1) (hf : cells ≤ R.cells ∧ slots ≤ R.slots)
    (kk : ∀ (H1 : Heap) (locs1 : List Loc), va_P D cl (mo_mix ws js (wf o)) H1 → va_D A (mo_mix ws js (wf o)) → va_S A H0 H1 locs1 → W p l e R s m args below meth c H1 locs1 cells slots Q (F0 m (pc + 3) ls st1)) : W p l e R s m args below meth c H locs cells slots Q (F0 m pc ls st0) :=
  mo_wr (W.runS (As := As) (rest := rest) (g := F0 m pc ls st0) S hM cw ⟨mo_blindM, fun U hU hW => ⟨rfl, by rw [hU]; exact mo_subP hP hC, va_K.moved hW.alike hK, hN.warm hW, (hD.sub is hnd hC).weaken (fun _ _ _ _ => trivial)⟩⟩ rfl hn hsz hst (lv_room (Nat.le_of_ble_eq_true hW)) hdg hf) hP hD hS is js hck hC hfst h1 kk
theorem mo_mS {α : Type} {o : α} {wf : α → va_W} {rv : α → Option Value} (S : CallFix p m c cc nL s args Ts own) (hM : Met l y wsW rm (va_Pc As (mo_Pm D tys wc)) (mo_Qm D wc wf rv o) 0 0 (mo_A wc)) (cw : CallB R s args own index y bytes maxL ret wsW rm 0 0 n ∧ (Cond.static y).before args s = true) (hP : va_P D cl ws H) (hD : va_D A ws) (hS : va_S A H0 H locs) (hK : va_K D cl tys s) (hN : mo_N s) (is : List Nat) (js : List (Option Nat)) (hck : mo_ck is js = true) (hnd : va_nd is = true) (hC : is.map (fun i => ws[i]?) = wc.map some) (hfst : (wf o).map Prod.fst = wc.map Prod.fst) (hn : As.length = n) (hsz : ls.size = nL) (hst : st0 = As.reverse ++ rest) (hW : Nat.ble (rest.map fun v => v.category).sum 8 = true) (hdg : decode cc pc = .ok (.invokestatic index, 3)) (h1 : (rv o).toList ++ rest = st1)
    (kk : ∀ (H1 : Heap) (locs1 : List Loc), va_P D cl (mo_mix ws js (wf o)) H1 → va_D A (mo_mix ws js (wf o)) → va_S A H0 H1 locs1 → W p l e R s m args below meth c H1 locs1 0 0 Q (F0 m (pc + 3) ls st1)) : W p l e R s m args below meth c H locs 0 0 Q (F0 m pc ls st0) :=
  mo_mSg S hM cw hP hD hS hK hN is js hck hnd hC hfst hn hsz hst hW hdg h1 ⟨Nat.zero_le _, Nat.zero_le _⟩ kk
theorem mo_mmax' (hexec : p.tables.exec = Jvm.exec) (hb : c.code = cc) (hml : c.maxLocals = ls.size) (hown : s.vm.findClass own = some m.cls) (hw : ∀ w ∈ WG, w.before args s = true) (w1 : Cond.methodLink own index Lib.Math.max.name ∈ WG) (w2 : Cond.static Lib.Math.max.name ∈ WG) (w3 : Cond.initialized "java/lang/Math" ∈ WG) (w4 : Cond.code Lib.Math.max.name Lib.Math.max.code 2 (some .int) ∈ WG) {x y : Int32} (hdg : decode cc pc = .ok (.invokestatic index, 3)) (hR1 : Nat.ble 1 R.frames = true) (hR2 : Nat.ble ((rest.map fun v => v.category).sum + 13) R.locals = true)
    (kk : W p l e R s m args below meth c H locs 0 0 Q (F0 m (pc + 3) ls (.int (mo_max x y) :: rest))) : W p l e R s m args below meth c H locs 0 0 Q (F0 m pc ls (.int y :: .int x :: rest)) :=
  va_mmax hexec hb hml hown (hw _ w1) (hw _ w2) (hw _ w3) (hw _ w4) (Nat.le_of_ble_eq_true hR1) (Nat.le_of_ble_eq_true hR2) (Nat.zero_le _) (Nat.zero_le _) hdg kk
theorem mo_copy' (hexec : p.tables.exec = Jvm.exec) (hb : c.code = cc) (hml : c.maxLocals = ls.size) (hown : s.vm.findClass own = some m.cls) (hw : ∀ w ∈ WG, w.before args s = true) (w1 : Cond.methodLink own index arraycopyName ∈ WG) (w2 : Cond.native arraycopyName ∈ WG) (w3 : Cond.static arraycopyName ∈ WG) (w4 : Cond.initialized "java/lang/System" ∈ WG) (hK : va_K D cl tys s) (hP : va_P D cl ws H) (hD : va_D A ws) (hS : va_S A H0 H locs) (q0 q1 t0 : Nat) {a0 : Nat} {cA : ClassId} {n0 n1 : Nat} {f g g2 : Nat → Int32} (ha0 : ws[q0]? = some (a0, .inl (cA, n0, .inl f))) (ha1 : ws[q1]? = some (a, .inl (cA, n1, .inl g))) (ht : tys[t0]? = some (cA, .int)) {sp dp n : Int32} (hi : ¬ (sp < 0 ∨ dp < 0 ∨ n < 0 ∨ n0 < sp.toNatClampNeg + n.toNatClampNeg ∨ n1 < dp.toNatClampNeg + n.toNatClampNeg)) (hg : va_cpy f g sp.toNatClampNeg dp.toNatClampNeg n.toNatClampNeg = g2) (hdg : decode cc pc = .ok (.invokestatic index, 3)) (hR1 : Nat.ble 1 R.frames = true) (hR2 : Nat.ble ((rest.map fun v => v.category).sum + (nativeFrameWords "java/lang/System" "arraycopy" 5 + 11)) R.locals = true)
    (kk : ∀ (H1 : Heap) (locs1 : List Loc), va_P D cl (ws.set q1 (a, .inl (cA, n1, .inl g2))) H1 → va_D A (ws.set q1 (a, .inl (cA, n1, .inl g2))) → va_S A H0 H1 locs1 → W p l e R s m args below meth c H1 locs1 cells slots Q (F0 m (pc + 3) ls rest)) : W p l e R s m args below meth c H locs cells slots Q (F0 m pc ls (.int n :: .int dp :: .ref a :: .int sp :: .ref a0 :: rest)) := by
  subst hg
  exact va_copyi hexec hb hml hown (hw _ w1) (hw _ w2) (hw _ w3) (hw _ w4) hK hP hD hS q0 q1 t0 t0 ha0 ha1 ht ht rfl (fun h => hi (Or.inl h)) (fun h => hi (Or.inr (Or.inl h))) (fun h => hi (Or.inr (Or.inr (Or.inl h)))) (Nat.not_lt.mp fun h => hi (Or.inr (Or.inr (Or.inr (Or.inl h))))) (Nat.not_lt.mp fun h => hi (Or.inr (Or.inr (Or.inr (Or.inr h))))) (fun _ _ => rfl) (Nat.le_of_ble_eq_true hR1) (Nat.le_of_ble_eq_true hR2) hdg kk
end MO
