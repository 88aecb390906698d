/-! the small functions of both -/
def mx (a b : Int32) : Int32 := ((a * 668265263) + b) ^^^ ((((a * 668265263) + b).toUInt32 >>> ((13 : Int32).toUInt32 &&& Int32.toUInt32 31)).toInt32)
theorem e_mix (a b : Int32) : m_bm_mix a b = some (mx a b) := rfl
theorem e_mmix (a b : Int32) : m_mm_mix a b = some (mx a b) := rfl
theorem e_lockFor (a : Int32) : m_bm_lockFor a = some (mx 7 a) := rfl
theorem e_bit (n : Nat) : m_bm_bit (nI n) = some (bi n) := rfl
theorem e_holds (x : Int64) {n : Nat} (hn : n < 64) : m_bm_holds x (nI n) = some (if tb x n = true then 1 else 0) := by
  unfold m_bm_holds
  by_cases h : tb x n = true
  · rw [mo_F (fun q => by rw [(hd_tb x hn).mp q] at h; cases h), if_pos h]
  · rw [mo_T ((hd_tb x hn).mpr (Bool.not_eq_true _ ▸ h)), if_neg h]
theorem e_in (x : Int64) {n : Nat} (hn : n < 64) : m_mm_in x (nI n) = some (if tb x n = true then 1 else 0) := by
  unfold m_mm_in
  by_cases h : tb x n = true
  · rw [mo_T ((in_tb x hn).mpr h), if_pos h]
  · rw [mo_F (fun q => h ((in_tb x hn).mp q)), if_neg h]
def bc1 (x : Int64) : Int64 := x - (((x.toUInt64 >>> ((1 : Int32).toInt64.toUInt64 &&& Int64.toUInt64 63)).toInt64) &&& 6148914691236517205)
def bc2 (x : Int64) : Int64 := (x &&& 3689348814741910323) + (((x.toUInt64 >>> ((2 : Int32).toInt64.toUInt64 &&& Int64.toUInt64 63)).toInt64) &&& 3689348814741910323)
def bc3 (x : Int64) : Int64 := (x + ((x.toUInt64 >>> ((4 : Int32).toInt64.toUInt64 &&& Int64.toUInt64 63)).toInt64)) &&& 1085102592571150095
def bc4 (x : Int64) : Int64 := x + ((x.toUInt64 >>> ((8 : Int32).toInt64.toUInt64 &&& Int64.toUInt64 63)).toInt64)
def bc5 (x : Int64) : Int64 := x + ((x.toUInt64 >>> ((16 : Int32).toInt64.toUInt64 &&& Int64.toUInt64 63)).toInt64)
def bc6 (x : Int64) : Int64 := x + ((x.toUInt64 >>> ((32 : Int32).toInt64.toUInt64 &&& Int64.toUInt64 63)).toInt64)
theorem bc_eq (x : Int64) : m_jl_bitCount x = some ((bc6 (bc5 (bc4 (bc3 (bc2 (bc1 x)))))).toInt32 &&& 127) := rfl
theorem bc1_n {n : Nat} (h : n < 2 ^ 64) : bc1 (lN n) = lN (n - (n / 2 &&& 6148914691236517205)) := by
  have h1 := wb_shr (k := 1) h (by decide)
  have h2 := wb_and (a := n / 2 ^ 1) (b := 6148914691236517205) (by omega) (by decide)
  have h3 : n / 2 ^ 1 &&& 6148914691236517205 ≤ n := Nat.le_trans Nat.and_le_left (Nat.div_le_self _ _)
  have h4 := lN_sub h3
  rw [← h2, ← h1] at h4
  exact h4
theorem bc2_n {n : Nat} (h : n < 2 ^ 64) : bc2 (lN n) = lN ((n &&& 3689348814741910323) + (n / 4 &&& 3689348814741910323)) := by
  have h1 := wb_shr (k := 2) h (by decide)
  have h2 := wb_and (a := n / 2 ^ 2) (b := 3689348814741910323) (by omega) (by decide)
  have h3 := wb_and (a := n) (b := 3689348814741910323) h (by decide)
  have h4 := lN_add (n &&& 3689348814741910323) (n / 2 ^ 2 &&& 3689348814741910323)
  rw [← h2, ← h3, ← h1] at h4
  exact h4
theorem bc3_n {n : Nat} (h : n + n / 16 < 2 ^ 64) : bc3 (lN n) = lN ((n + n / 16) &&& 1085102592571150095) := by
  have h1 := wb_shr (n := n) (k := 4) (by omega) (by decide)
  have h2 := wb_and (a := n + n / 2 ^ 4) (b := 1085102592571150095) (by omega) (by decide)
  rw [← lN_add, ← h1] at h2
  exact h2
theorem bc4_n {n : Nat} (h : n < 2 ^ 64) : bc4 (lN n) = lN (n + n / 256) := by
  have h1 := wb_shr (k := 8) h (by decide)
  have h2 := lN_add n (n / 2 ^ 8)
  rw [← h1] at h2
  exact h2
theorem bc5_n {n : Nat} (h : n < 2 ^ 64) : bc5 (lN n) = lN (n + n / 65536) := by
  have h1 := wb_shr (k := 16) h (by decide)
  have h2 := lN_add n (n / 2 ^ 16)
  rw [← h1] at h2
  exact h2
theorem bc6_n {n : Nat} (h : n < 2 ^ 64) : bc6 (lN n) = lN (n + n / 4294967296) := by
  have h1 := wb_shr (k := 32) h (by decide)
  have h2 := lN_add n (n / 2 ^ 32)
  rw [← h1] at h2
  exact h2
theorem pc_lt3 (k : Nat) : ∀ x, pc_ok 16 4 k x → 3 * x < 16 ^ k := by
  induction k with
  | zero =>
    intro x h
    have : x = 0 := h
    subst this
    decide
  | succ k ih =>
    intro x h
    obtain ⟨h1, h2⟩ : x % 16 ≤ 4 ∧ pc_ok 16 4 k (x / 16) := h
    have h3 := ih (x / 16) h2
    have e : (16 : Nat) ^ (k + 1) = 16 ^ k * 16 := Nat.pow_succ 16 k
    omega
theorem e_bitCount (x : Int64) : m_jl_bitCount x = some (nI (cnt x 64)) := by
  have hx : x = lN x.toBitVec.toNat := wb_inj (by rw [wb_tb]; simp)
  have hn : x.toBitVec.toNat < 2 ^ 64 := x.toBitVec.isLt
  have hc := cnt_cn x 64
  rw [← pc_sd_cn, ← pc_all hn] at hc
  rw [bc_eq, ← hc]
  generalize x.toBitVec.toNat = n at hx hn
  rw [hx, bc1_n hn]
  have m5 : pc_m5 32 = 6148914691236517205 := by decide +kernel
  have m3 : pc_m3 16 = 3689348814741910323 := by decide +kernel
  have mF : pc_mF 8 = 1085102592571150095 := by decide +kernel
  have h1 := pc_s2 32 n (by simpa using hn)
  obtain ⟨_, o1⟩ := pc_d2 32 n
  have l1 : pc_p2 32 n ≤ n := by rw [← h1]; omega
  have h2 := pc_s4 16 (pc_p2 32 n) (by have e : (16 : Nat) ^ 16 = 2 ^ 64 := by decide
                                       omega)
  obtain ⟨_, o2⟩ := pc_d4 16 (pc_p2 32 n) o1
  have h3 := pc_s8 8 (pc_p4 16 (pc_p2 32 n)) o2
  obtain ⟨_, o3⟩ := pc_d8 8 (pc_p4 16 (pc_p2 32 n)) o2
  obtain ⟨_, l3⟩ := pc_end _ o3
  unfold pc_nat
  rw [m5] at h1
  rw [m3] at h2
  rw [mF] at h3
  have l2 : pc_p4 16 (pc_p2 32 n) + pc_p4 16 (pc_p2 32 n) / 16 < 2 ^ 64 := by
    have g := pc_lt3 16 _ o2
    have e : (16 : Nat) ^ 16 = 2 ^ 64 := by decide
    rw [e] at g
    omega
  dsimp only
  rw [h1, bc2_n (by omega), h2, bc3_n l2, h3]
  generalize pc_p8 8 (pc_p4 16 (pc_p2 32 n)) = v at l3
  rw [bc4_n (by omega), bc5_n (by omega), bc6_n (by omega), lN_i, pk_and _ 7 (by decide)]
  congr 2
  generalize v + v / 256 + (v + v / 256) / 65536 + (v + v / 256 + (v + v / 256) / 65536) / 4294967296 = a
  show (BitVec.ofNat 32 a).toNat % 2 ^ 7 = a % 128
  rw [BitVec.toNat_ofNat]
  omega
theorem cnt_t {x : Int64} {j : Nat} (h : tb x j = true) : cnt x (j + 1) = cnt x j + 1 := by
  show cnt x j + (tb x j).toNat = _
  rw [h]
  rfl
theorem cnt_f {x : Int64} {j : Nat} (h : ¬ tb x j = true) : cnt x (j + 1) = cnt x j := by
  show cnt x j + (tb x j).toNat = _
  rw [Bool.not_eq_true] at h
  rw [h]
  rfl
theorem e_many (x : Int64) : m_mm_many x = some (nI (cnt x 60)) := by
  have h : mo_lp (m_mm_many_L4 x) 1000 (0, 0) = some (nI (cnt x 60)) := so_eq (lp_ix 60 (fun j z => z = (nI (cnt x j), nI j)) (fun o => o = nI (cnt x 60)) (by
    intro back j z hj hz ih
    subst hz
    unfold m_mm_many_L4
    dsimp only
    by_cases h60 : j = 60
    · subst h60
      rw [mo_T (by decide)]
      exact ⟨_, rfl, rfl⟩
    · rw [mo_F (show ¬ (60 : Int32) ≤ nI j from nI_ge (b := 60) (by omega) (by decide)), e_in x (by omega), mo_bs, mo_js]
      by_cases ht : tb x j = true
      · rw [if_pos ht, mo_F (by decide), ← nI_succ, ← nI_succ, ← cnt_t ht]
        exact ih _ (by omega) rfl
      · rw [if_neg ht, mo_T rfl, ← nI_succ]
        exact ih _ (by omega) (by rw [cnt_f ht])) 1000 0 (0, 0) (by decide) rfl (by decide))
  unfold m_mm_many
  rw [h, mo_bs]
