/-! bits of longs, and how many they are -/
theorem pc_and (i : Nat) {a b c e : Nat} (hb : b < 2 ^ i) (he : e < 2 ^ i) : (2 ^ i * a + b) &&& (2 ^ i * c + e) = 2 ^ i * (a &&& c) + (b &&& e) := by
  have hbe : b &&& e < 2 ^ i := Nat.lt_of_le_of_lt Nat.and_le_left hb
  apply Nat.eq_of_testBit_eq
  intro j
  rw [Nat.testBit_and, Nat.testBit_two_pow_mul_add _ hb, Nat.testBit_two_pow_mul_add _ he, Nat.testBit_two_pow_mul_add _ hbe]
  by_cases h : j < i
  · rw [if_pos h, if_pos h, if_pos h, Nat.testBit_and]
  · rw [if_neg h, if_neg h, if_neg h, Nat.testBit_and]
def pc_m5 : Nat → Nat
  | 0 => 0
  | k + 1 => 4 * pc_m5 k + 1
def pc_m3 : Nat → Nat
  | 0 => 0
  | k + 1 => 16 * pc_m3 k + 3
def pc_mF : Nat → Nat
  | 0 => 0
  | k + 1 => 256 * pc_mF k + 15
def pc_p2 : Nat → Nat → Nat
  | 0, _ => 0
  | k + 1, x => 4 * pc_p2 k (x / 4) + (x % 4 - x % 4 / 2)
def pc_p4 : Nat → Nat → Nat
  | 0, _ => 0
  | k + 1, x => 16 * pc_p4 k (x / 16) + (x % 4 + x % 16 / 4)
def pc_p8 : Nat → Nat → Nat
  | 0, _ => 0
  | k + 1, x => 256 * pc_p8 k (x / 256) + (x % 16 + x % 256 / 16)
/-- a row of numbers: the base, how many, of the least digits -/
def pc_sd (B : Nat) : Nat → Nat → Nat
  | 0, _ => 0
  | k + 1, x => pc_sd B k (x / B) + x % B
def pc_ok (B M : Nat) : Nat → Nat → Prop
  | 0, x => x = 0
  | k + 1, x => x % B ≤ M ∧ pc_ok B M k (x / B)
theorem pc_s2 (k : Nat) : ∀ x, x < 4 ^ k → x - (x / 2 &&& pc_m5 k) = pc_p2 k x := by
  induction k with
  | zero =>
    intro x h
    have : x = 0 := by simpa using h
    subst this
    rfl
  | succ k ih =>
    intro x h
    have hy : x / 4 < 4 ^ k := by
      have : 4 ^ (k + 1) = 4 ^ k * 4 := Nat.pow_succ 4 k
      omega
    have h1 := ih (x / 4) hy
    have e1 : x / 2 = 2 ^ 2 * (x / 4 / 2) + (2 * (x / 4 % 2) + x % 4 / 2) := by omega
    have e2 : pc_m5 (k + 1) = 2 ^ 2 * pc_m5 k + 1 := rfl
    have e3 : x / 2 &&& pc_m5 (k + 1) = 2 ^ 2 * (x / 4 / 2 &&& pc_m5 k) + ((2 * (x / 4 % 2) + x % 4 / 2) &&& 1) := by
      rw [e1, e2]
      exact pc_and 2 (by omega) (by omega)
    have e4 : (2 * (x / 4 % 2) + x % 4 / 2) &&& 1 = x % 4 / 2 := by
      rw [Nat.and_one_is_mod]
      omega
    have h2 : x / 4 / 2 &&& pc_m5 k ≤ x / 4 / 2 := Nat.and_le_left
    rw [e3, e4]
    show _ = 4 * pc_p2 k (x / 4) + (x % 4 - x % 4 / 2)
    omega
theorem pc_and3 (d : Nat) : d &&& 3 = d % 4 := Nat.and_two_pow_sub_one_eq_mod d 2
theorem pc_and15 (d : Nat) : d &&& 15 = d % 16 := Nat.and_two_pow_sub_one_eq_mod d 4
theorem pc_s4 (k : Nat) : ∀ x, x < 16 ^ k → (x &&& pc_m3 k) + (x / 4 &&& pc_m3 k) = pc_p4 k x := by
  induction k with
  | zero =>
    intro x h
    have : x = 0 := by simpa using h
    subst this
    rfl
  | succ k ih =>
    intro x h
    have hy : x / 16 < 16 ^ k := by
      have : 16 ^ (k + 1) = 16 ^ k * 16 := Nat.pow_succ 16 k
      omega
    have h1 := ih (x / 16) hy
    have e2 : pc_m3 (k + 1) = 2 ^ 4 * pc_m3 k + 3 := rfl
    have e0 : x = 2 ^ 4 * (x / 16) + x % 16 := by omega
    have e1 : x / 4 = 2 ^ 4 * (x / 16 / 4) + (4 * (x / 16 % 4) + x % 16 / 4) := by omega
    have e3 : x &&& pc_m3 (k + 1) = 2 ^ 4 * (x / 16 &&& pc_m3 k) + (x % 16 &&& 3) := by
      rw [e2]
      have := pc_and 4 (a := x / 16) (b := x % 16) (c := pc_m3 k) (e := 3) (by omega) (by omega)
      rw [← e0] at this
      exact this
    have e4 : x / 4 &&& pc_m3 (k + 1) = 2 ^ 4 * (x / 16 / 4 &&& pc_m3 k) + ((4 * (x / 16 % 4) + x % 16 / 4) &&& 3) := by
      rw [e1, e2]
      exact pc_and 4 (by omega) (by omega)
    rw [e3, e4, pc_and3, pc_and3]
    show _ = 16 * pc_p4 k (x / 16) + (x % 4 + x % 16 / 4)
    omega
theorem pc_s8 (k : Nat) : ∀ x, pc_ok 16 4 (2 * k) x → (x + x / 16) &&& pc_mF k = pc_p8 k x := by
  induction k with
  | zero =>
    intro x h
    have : x = 0 := h
    subst this
    rfl
  | succ k ih =>
    intro x h
    obtain ⟨g1, g2, g3⟩ : x % 16 ≤ 4 ∧ x / 16 % 16 ≤ 4 ∧ pc_ok 16 4 (2 * k) (x / 16 / 16) := h
    have ed : x / 16 / 16 = x / 256 := by omega
    rw [ed] at g3
    have h1 := ih (x / 256) g3
    have g4 : x / 256 % 16 ≤ 4 := by
      cases k with
      | zero =>
        have : x / 256 = 0 := g3
        omega
      | succ k => exact g3.1
    have e1 : x + x / 16 = 2 ^ 8 * (x / 256 + x / 256 / 16) + (x % 256 + 16 * (x / 256 % 16) + x % 256 / 16) := by omega
    have e2 : pc_mF (k + 1) = 2 ^ 8 * pc_mF k + 15 := rfl
    have e3 : (x + x / 16) &&& pc_mF (k + 1) = 2 ^ 8 * ((x / 256 + x / 256 / 16) &&& pc_mF k) + ((x % 256 + 16 * (x / 256 % 16) + x % 256 / 16) &&& 15) := by
      rw [e1, e2]
      exact pc_and 8 (by omega) (by omega)
    rw [e3, h1, pc_and15]
    show _ = 256 * pc_p8 k (x / 256) + (x % 16 + x % 256 / 16)
    omega
theorem pc_d2 (k : Nat) : ∀ x, pc_sd 4 k (pc_p2 k x) = pc_sd 2 (2 * k) x ∧ pc_ok 4 2 k (pc_p2 k x) := by
  induction k with
  | zero => intro x; exact ⟨rfl, rfl⟩
  | succ k ih =>
    intro x
    obtain ⟨h1, h2⟩ := ih (x / 4)
    have e1 : pc_p2 (k + 1) x / 4 = pc_p2 k (x / 4) := by
      show (4 * pc_p2 k (x / 4) + (x % 4 - x % 4 / 2)) / 4 = _
      omega
    have e2 : pc_p2 (k + 1) x % 4 = x % 4 - x % 4 / 2 := by
      show (4 * pc_p2 k (x / 4) + (x % 4 - x % 4 / 2)) % 4 = _
      omega
    refine ⟨?_, ?_, ?_⟩
    · show pc_sd 4 k (pc_p2 (k + 1) x / 4) + pc_p2 (k + 1) x % 4 = pc_sd 2 (2 * k) (x / 2 / 2) + x / 2 % 2 + x % 2
      rw [e1, e2, h1, show x / 2 / 2 = x / 4 by omega]
      omega
    · rw [e2]; omega
    · rw [e1]; exact h2
theorem pc_d4 (k : Nat) : ∀ x, pc_ok 4 2 (2 * k) x → pc_sd 16 k (pc_p4 k x) = pc_sd 4 (2 * k) x ∧ pc_ok 16 4 k (pc_p4 k x) := by
  induction k with
  | zero => intro x _; exact ⟨rfl, rfl⟩
  | succ k ih =>
    intro x h
    obtain ⟨g1, g2, g3⟩ : x % 4 ≤ 2 ∧ x / 4 % 4 ≤ 2 ∧ pc_ok 4 2 (2 * k) (x / 4 / 4) := h
    have ed : x / 4 / 4 = x / 16 := by omega
    rw [ed] at g3
    obtain ⟨h1, h2⟩ := ih (x / 16) g3
    have e1 : pc_p4 (k + 1) x / 16 = pc_p4 k (x / 16) := by
      show (16 * pc_p4 k (x / 16) + (x % 4 + x % 16 / 4)) / 16 = _
      omega
    have e2 : pc_p4 (k + 1) x % 16 = x % 4 + x % 16 / 4 := by
      show (16 * pc_p4 k (x / 16) + (x % 4 + x % 16 / 4)) % 16 = _
      omega
    refine ⟨?_, ?_, ?_⟩
    · show pc_sd 16 k (pc_p4 (k + 1) x / 16) + pc_p4 (k + 1) x % 16 = pc_sd 4 (2 * k) (x / 4 / 4) + x / 4 % 4 + x % 4
      rw [e1, e2, h1, ed]
      omega
    · rw [e2]; omega
    · rw [e1]; exact h2
theorem pc_d8 (k : Nat) : ∀ x, pc_ok 16 4 (2 * k) x → pc_sd 256 k (pc_p8 k x) = pc_sd 16 (2 * k) x ∧ pc_ok 256 8 k (pc_p8 k x) := by
  induction k with
  | zero => intro x _; exact ⟨rfl, rfl⟩
  | succ k ih =>
    intro x h
    obtain ⟨g1, g2, g3⟩ : x % 16 ≤ 4 ∧ x / 16 % 16 ≤ 4 ∧ pc_ok 16 4 (2 * k) (x / 16 / 16) := h
    have ed : x / 16 / 16 = x / 256 := by omega
    rw [ed] at g3
    obtain ⟨h1, h2⟩ := ih (x / 256) g3
    have e1 : pc_p8 (k + 1) x / 256 = pc_p8 k (x / 256) := by
      show (256 * pc_p8 k (x / 256) + (x % 16 + x % 256 / 16)) / 256 = _
      omega
    have e2 : pc_p8 (k + 1) x % 256 = x % 16 + x % 256 / 16 := by
      show (256 * pc_p8 k (x / 256) + (x % 16 + x % 256 / 16)) % 256 = _
      omega
    refine ⟨?_, ?_, ?_⟩
    · show pc_sd 256 k (pc_p8 (k + 1) x / 256) + pc_p8 (k + 1) x % 256 = pc_sd 16 (2 * k) (x / 16 / 16) + x / 16 % 16 + x % 16
      rw [e1, e2, h1, ed]
      omega
    · rw [e2]; omega
    · rw [e1]; exact h2
/-- the last steps: eight bytes of at most eight each -/
theorem pc_end (v : Nat) (h : pc_ok 256 8 8 v) : (v + v / 256 + (v + v / 256) / 65536 + (v + v / 256 + (v + v / 256) / 65536) / 4294967296) % 128 = pc_sd 256 8 v ∧ v < 2 ^ 60 := by
  obtain ⟨h0, h1, h2, h3, h4, h5, h6, h7, h8⟩ : v % 256 ≤ 8 ∧ v / 256 % 256 ≤ 8 ∧ v / 256 / 256 % 256 ≤ 8 ∧ v / 256 / 256 / 256 % 256 ≤ 8 ∧ v / 256 / 256 / 256 / 256 % 256 ≤ 8 ∧ v / 256 / 256 / 256 / 256 / 256 % 256 ≤ 8 ∧ v / 256 / 256 / 256 / 256 / 256 / 256 % 256 ≤ 8 ∧ v / 256 / 256 / 256 / 256 / 256 / 256 / 256 % 256 ≤ 8 ∧ v / 256 / 256 / 256 / 256 / 256 / 256 / 256 / 256 = 0 := h
  generalize e0 : v % 256 = b0 at *
  generalize f1 : v / 256 = v1 at *
  generalize e1 : v1 % 256 = b1 at *
  generalize f2 : v1 / 256 = v2 at *
  generalize e2 : v2 % 256 = b2 at *
  generalize f3 : v2 / 256 = v3 at *
  generalize e3 : v3 % 256 = b3 at *
  generalize f4 : v3 / 256 = v4 at *
  generalize e4 : v4 % 256 = b4 at *
  generalize f5 : v4 / 256 = v5 at *
  generalize e5 : v5 % 256 = b5 at *
  generalize f6 : v5 / 256 = v6 at *
  generalize e6 : v6 % 256 = b6 at *
  generalize f7 : v6 / 256 = v7 at *
  generalize e7 : v7 % 256 = b7 at *
  have a0 : v = 256 * v1 + b0 := by omega
  have a1 : v1 = 256 * v2 + b1 := by omega
  have a2 : v2 = 256 * v3 + b2 := by omega
  have a3 : v3 = 256 * v4 + b3 := by omega
  have a4 : v4 = 256 * v5 + b4 := by omega
  have a5 : v5 = 256 * v6 + b5 := by omega
  have a6 : v6 = 256 * v7 + b6 := by omega
  have a7 : v7 = b7 := by omega
  have es : pc_sd 256 8 v = b7 + b6 + b5 + b4 + b3 + b2 + b1 + b0 := by
    show 0 + v / 256 / 256 / 256 / 256 / 256 / 256 / 256 % 256 + v / 256 / 256 / 256 / 256 / 256 / 256 % 256 + v / 256 / 256 / 256 / 256 / 256 % 256 + v / 256 / 256 / 256 / 256 % 256 + v / 256 / 256 / 256 % 256 + v / 256 / 256 % 256 + v / 256 % 256 + v % 256 = _
    rw [f1, f2, f3, f4, f5, f6, f7, e0, e1, e2, e3, e4, e5, e6, e7]
    omega
  rw [es]
  clear es e0 e1 e2 e3 e4 e5 e6 e7 f1 f2 f3 f4 f5 f6 f7 h8
  have c1 : v + v1 = 65536 * (v2 + v3) + (b0 + b1 + 256 * (b1 + b2)) := by omega
  have q1 : (v + v1) / 65536 = v2 + v3 := by omega
  rw [q1]
  have l0 : v = 4294967296 * v4 + (16777216 * b3 + 65536 * b2 + 256 * b1 + b0) := by omega
  have l1 : v1 = 4294967296 * v5 + (16777216 * b4 + 65536 * b3 + 256 * b2 + b1) := by omega
  have l2 : v2 = 4294967296 * v6 + (16777216 * b5 + 65536 * b4 + 256 * b3 + b2) := by omega
  have l3 : v3 = 4294967296 * v7 + (16777216 * b6 + 65536 * b5 + 256 * b4 + b3) := by omega
  have q3 : (v + v1 + (v2 + v3)) / 4294967296 = v4 + v5 + v6 + v7 := by
    have c2 : v + v1 + (v2 + v3) = 4294967296 * (v4 + v5 + v6 + v7) + ((16777216 * b3 + 65536 * b2 + 256 * b1 + b0) + (16777216 * b4 + 65536 * b3 + 256 * b2 + b1) + (16777216 * b5 + 65536 * b4 + 256 * b3 + b2) + (16777216 * b6 + 65536 * b5 + 256 * b4 + b3)) := by omega
    clear a0 a1 a2 a3 a4 a5 a6 a7 l0 l1 l2 l3 c1 q1
    omega
  rw [q3]
  have c3 : v + v1 + (v2 + v3) + (v4 + v5 + v6 + v7) = 128 * (2 * (v1 + v2 + v3 + v4 + v5 + v6 + v7)) + (b0 + b1 + b2 + b3 + b4 + b5 + b6 + b7) := by omega
  refine ⟨?_, ?_⟩
  · rw [c3]
    clear c3 q3 l0 l1 l2 l3 q1 c1 a0 a1 a2 a3 a4 a5 a6 a7
    omega
  · clear c3 q3 l1 l2 l3 q1 c1
    omega
def pc_nat (x : Nat) : Nat :=
  let a := x - (x / 2 &&& 6148914691236517205)
  let b := (a &&& 3689348814741910323) + (a / 4 &&& 3689348814741910323)
  let v := (b + b / 16) &&& 1085102592571150095
  (v + v / 256 + (v + v / 256) / 65536 + (v + v / 256 + (v + v / 256) / 65536) / 4294967296) % 128
theorem pc_all {x : Nat} (h : x < 2 ^ 64) : pc_nat x = pc_sd 2 64 x := by
  have m5 : pc_m5 32 = 6148914691236517205 := by decide +kernel
  have m3 : pc_m3 16 = 3689348814741910323 := by decide +kernel
  have mF : pc_mF 8 = 1085102592571150095 := by decide +kernel
  have h1 := pc_s2 32 x (by simpa using h)
  rw [m5] at h1
  obtain ⟨d1, o1⟩ := pc_d2 32 x
  have hlt : pc_p2 32 x < 16 ^ 16 := by
    have : pc_p2 32 x ≤ x := by rw [← h1]; omega
    have e : (16 : Nat) ^ 16 = 2 ^ 64 := by decide
    omega
  have h2 := pc_s4 16 (pc_p2 32 x) hlt
  rw [m3] at h2
  obtain ⟨d2, o2⟩ := pc_d4 16 (pc_p2 32 x) o1
  have h3 := pc_s8 8 (pc_p4 16 (pc_p2 32 x)) o2
  rw [mF] at h3
  obtain ⟨d3, o3⟩ := pc_d8 8 (pc_p4 16 (pc_p2 32 x)) o2
  have h4 := (pc_end _ o3).1
  unfold pc_nat
  simp only [h1, h2, h3]
  rw [h4, d3, d2, d1]
