/-! sets of blocks as longs -/
def tb (x : Int64) (b : Nat) : Bool := x.toBitVec.getLsbD b
theorem tb_or (x y : Int64) (b : Nat) : tb (x ||| y) b = (tb x b || tb y b) := by unfold tb; rw [Int64.toBitVec_or, BitVec.getLsbD_or]
theorem tb_and (x y : Int64) (b : Nat) : tb (x &&& y) b = (tb x b && tb y b) := by unfold tb; rw [Int64.toBitVec_and, BitVec.getLsbD_and]
theorem tb_xor (x y : Int64) (b : Nat) : tb (x ^^^ y) b = (tb x b ^^ tb y b) := by unfold tb; rw [Int64.toBitVec_xor, BitVec.getLsbD_xor]
theorem tb_m1 : ∀ b, b < 64 → tb (-1) b = true := by decide +kernel
theorem tb_0 (b : Nat) : tb 0 b = false := BitVec.getLsbD_zero
theorem tb_big {x : Int64} {b : Nat} (h : 64 ≤ b) : tb x b = false := BitVec.getLsbD_of_ge _ _ h
theorem tb_not (x : Int64) {b : Nat} (h : b < 64) : tb (x ^^^ (-1)) b = !tb x b := by rw [tb_xor, tb_m1 b h, Bool.xor_true]
theorem tb_ext {x y : Int64} (h : ∀ b, b < 64 → tb x b = tb y b) : x = y := Int64.toBitVec_inj.mp (BitVec.eq_of_getLsbD_eq (fun i hi => h i hi))
def bi (n : Nat) : Int64 := (1 : Int64) <<< ((nI n).toInt64 &&& 63)
theorem tb_bi {n : Nat} (hn : n < 64) (b : Nat) : tb (bi n) b = decide (b = n) := by
  have e : bi n = lN (2 ^ n) := by
    have h := wb_shl 1 hn
    rw [Nat.one_mul] at h
    exact h
  rw [e]
  unfold tb
  rw [wb_tb, BitVec.getLsbD_ofNat, Nat.testBit_two_pow]
  by_cases h : b = n
  · subst h
    simp [hn]
  · have h2 : ¬ n = b := fun q => h q.symm
    simp [h, h2]
theorem hd_tb (x : Int64) {n : Nat} (hn : n < 64) : ((x.toUInt64 >>> ((nI n).toInt64.toUInt64 &&& Int64.toUInt64 63)).toInt64 &&& 1) = 0 ↔ tb x n = false :=
  ts_bit hn (by rw [wb_cu n hn]; exact Nat.mod_eq_of_lt (by omega))
theorem wb_sl : ∀ n, n < 64 → (((nI n).toInt64 &&& 63).toBitVec.smod 64).toNat = n := by decide +kernel
theorem tb_sshr (x : Int64) {n : Nat} (hn : n < 64) : tb (x >>> ((nI n).toInt64 &&& 63)) 0 = tb x n := by
  unfold tb
  rw [Int64.toBitVec_shiftRight]
  show (x.toBitVec.sshiftRight (((nI n).toInt64 &&& 63).toBitVec.smod 64).toNat).getLsbD 0 = _
  rw [wb_sl n hn, BitVec.getLsbD_sshiftRight]
  simp [hn]
theorem and1_tb (y : Int64) : (y &&& 1) = if tb y 0 then 1 else 0 := by
  apply tb_ext
  intro b hb
  rw [tb_and]
  have h1 : tb 1 b = decide (b = 0) := by
    have h := tb_bi (n := 0) (by decide) b
    exact h
  rw [h1]
  by_cases h : b = 0
  · subst h
    cases hy : tb y 0
    · simp [tb_0]
    · simp only [if_true]
      decide
  · cases hy : tb y 0
    · simp [tb_0, h]
    · simp only [if_true]
      rw [h1]
      simp [h]
theorem in_tb (x : Int64) {n : Nat} (hn : n < 64) : (x >>> ((nI n).toInt64 &&& 63) &&& 1) = 1 ↔ tb x n = true := by
  rw [and1_tb, tb_sshr x hn]
  cases tb x n <;> simp
/-- how many of the first n -/
def cnt (x : Int64) : Nat → Nat
  | 0 => 0
  | n + 1 => cnt x n + (tb x n).toNat
theorem cnt_le (x : Int64) (n : Nat) : cnt x n ≤ n := by
  induction n with
  | zero => exact Nat.le_refl _
  | succ n ih =>
    show cnt x n + (tb x n).toNat ≤ n + 1
    have : (tb x n).toNat ≤ 1 := Bool.toNat_le _
    omega
def pc_cn (x : Nat) : Nat → Nat
  | 0 => 0
  | n + 1 => pc_cn x n + (x.testBit n).toNat
theorem pc_cn_s (x n : Nat) : pc_cn x (n + 1) = pc_cn (x / 2) n + x % 2 := by
  induction n with
  | zero =>
    show 0 + (x.testBit 0).toNat = 0 + x % 2
    rw [Nat.testBit_zero]
    rcases Nat.mod_two_eq_zero_or_one x with h | h <;> rw [h] <;> rfl
  | succ n ih =>
    show pc_cn x (n + 1) + (x.testBit (n + 1)).toNat = pc_cn (x / 2) n + ((x / 2).testBit n).toNat + x % 2
    rw [ih, Nat.testBit_succ]
    omega
theorem pc_sd_cn (k : Nat) : ∀ x, pc_sd 2 k x = pc_cn x k := by
  induction k with
  | zero => intro x; rfl
  | succ k ih =>
    intro x
    rw [pc_cn_s, ← ih]
    rfl
theorem cnt_cn (x : Int64) (n : Nat) : pc_cn x.toBitVec.toNat n = cnt x n := by
  induction n with
  | zero => rfl
  | succ n ih =>
    show pc_cn x.toBitVec.toNat n + _ = cnt x n + _
    rw [ih]
    rfl
