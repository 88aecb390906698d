def m_bm_mix (x0 : Int32) (x1 : Int32) : Option (Int32) :=
  some (((x0 * 668265263) + x1) ^^^ ((((x0 * 668265263) + x1).toUInt32 >>> ((13 : Int32).toUInt32 &&& Int32.toUInt32 31)).toInt32))
def m_bl_parentAt (f_parents : Nat → Int32) (x1 : Int32) (x2 : Int32) : Option (Int32) :=
  mo_rI f_parents 240 ((x1 * 4) + x2) fun v9 =>
  some v9
def m_bm_bit (x0 : Int32) : Option (Int64) :=
  some ((1 : Int64) <<< (x0.toInt64 &&& 63))
def m_bl_parentSet_L5 (f_parentCounts : Nat → Int32) (f_parents : Nat → Int32) (x1 : Int32) (bk5 : Int64 × Int32 → Option (Int64)) : Int64 × Int32 → Option (Int64)
  | (z5_2, z5_4) =>
    mo_rI f_parentCounts 60 x1 fun v12 =>
    mo_br (v12 ≤ z5_4) (
      some z5_2
    ) (
      mo_bd (m_bl_parentAt f_parents x1 z5_4) fun r21 =>
      mo_bd (m_bm_bit r21) fun r24 =>
      bk5 (z5_2 ||| r24, z5_4 + 1)
    )
def m_bl_parentSet (f_parentCounts : Nat → Int32) (f_parents : Nat → Int32) (x1 : Int32) : Option (Int64) :=
  mo_bd (mo_lp (m_bl_parentSet_L5 f_parentCounts f_parents x1) 1000 (0, 0)) fun y5_2 =>
  some y5_2
def m_bm_holds (x0 : Int64) (x2 : Int32) : Option (Int32) :=
  mo_br ((((x0.toUInt64 >>> (x2.toInt64.toUInt64 &&& Int64.toUInt64 63)).toInt64) &&& 1) = 0) (
    some ((0 : Int32))
  ) (
    some ((1 : Int32))
  )
def m_bl_isEarlier (f_hashes : Nat → Int32) (x1 : Int32) (x2 : Int32) : Option (Int32) :=
  mo_rI f_hashes 60 x1 fun v5 =>
  mo_rI f_hashes 60 x2 fun v11 =>
  mo_br (v5 = v11) (
    mo_br (x2 ≤ x1) (
      some ((0 : Int32))
    ) (
      some ((1 : Int32))
    )
  ) (
    mo_rI f_hashes 60 x1 fun v20 =>
    mo_rI f_hashes 60 x2 fun v26 =>
    mo_br (v26 ≤ v20) (
      some ((0 : Int32))
    ) (
      some ((1 : Int32))
    )
  )
def m_dg_isHeavier (f_scores : Nat → Int32) (f_blocks_hashes : Nat → Int32) (x1 : Int32) (x2 : Int32) : Option (Int32) :=
  mo_rI f_scores 61 x1 fun v5 =>
  mo_rI f_scores 61 x2 fun v11 =>
  mo_br (v5 = v11) (
    mo_bd (m_bl_isEarlier f_blocks_hashes x1 x2) fun r44 =>
    mo_bz r44 (some r44)
  ) (
    mo_rI f_scores 61 x1 fun v20 =>
    mo_rI f_scores 61 x2 fun v26 =>
    mo_br (v20 ≤ v26) (
      some ((0 : Int32))
    ) (
      some ((1 : Int32))
    )
  )
def m_dg_heaviest_L5 (v_blocks_made : Int32) (f_scores : Nat → Int32) (f_blocks_hashes : Nat → Int32) (x1 : Int64) (bk5 : Int32 × Int32 → Option (Int32)) : Int32 × Int32 → Option (Int32)
  | (z5_3, z5_4) =>
    mo_br (v_blocks_made ≤ z5_4) (
      some z5_3
    ) (
      mo_bd (m_bm_holds x1 z5_4) fun r20 =>
      mo_jn (fun (y44_3 : Int32) =>
        bk5 (y44_3, z5_4 + 1)
      ) fun j44 =>
      mo_br (r20 = 0) (
        j44 z5_3
      ) (
        mo_jn (
          j44 z5_4
        ) fun j41 =>
        mo_br (z5_3 = ((-1))) (
          j41
        ) (
          mo_bd (m_dg_isHeavier f_scores f_blocks_hashes z5_4 z5_3) fun r35 =>
          mo_br (r35 = 0) (
            j44 z5_3
          ) (
            j41
          )
        )
      )
    )
def m_dg_heaviest (v_blocks_made : Int32) (f_scores : Nat → Int32) (f_blocks_hashes : Nat → Int32) (x1 : Int64) : Option (Int32) :=
  mo_bd (mo_lp (m_dg_heaviest_L5 v_blocks_made f_scores f_blocks_hashes x1) 1000 ((-1), 0)) fun y5_3 =>
  some y5_3
def m_dg_pastOf_L5 (v_blocks_made : Int32) (f_past : Nat → Int64) (x1 : Int64) (bk5 : Int64 × Int32 → Option (Int64)) : Int64 × Int32 → Option (Int64)
  | (z5_3, z5_5) =>
    mo_br (v_blocks_made ≤ z5_5) (
      some z5_3
    ) (
      mo_bd (m_bm_holds x1 z5_5) fun r20 =>
      mo_jn (fun (y36_3 : Int64) =>
        bk5 (y36_3, z5_5 + 1)
      ) fun j36 =>
      mo_br (r20 = 0) (
        j36 z5_3
      ) (
        mo_rL f_past 61 z5_5 fun v33 =>
        j36 (z5_3 ||| v33)
      )
    )
def m_dg_pastOf (v_blocks_made : Int32) (f_past : Nat → Int64) (x1 : Int64) : Option (Int64) :=
  mo_bd (mo_lp (m_dg_pastOf_L5 v_blocks_made f_past x1) 1000 (0, 0)) fun y5_3 =>
  some y5_3
def m_dg_mergedBy (f_selected : Nat → Int32) (f_past : Nat → Int64) (x1 : Int32) : Option (Int64) :=
  mo_rI f_selected 61 x1 fun v5 =>
  mo_br (v5 = ((-1))) (
    some ((0 : Int64))
  ) (
    mo_rL f_past 61 x1 fun v21 =>
    mo_rL f_past 61 v5 fun v27 =>
    mo_bd (m_bm_bit v5) fun r34 =>
    some ((v21 &&& (v27 ^^^ ((-1)))) &&& (r34 ^^^ ((-1))))
  )
def m_dg_isBefore (f_scores : Nat → Int32) (f_blocks_hashes : Nat → Int32) (x1 : Int32) (x2 : Int32) : Option (Int32) :=
  mo_rI f_scores 61 x1 fun v5 =>
  mo_rI f_scores 61 x2 fun v11 =>
  mo_br (v5 = v11) (
    mo_bd (m_bl_isEarlier f_blocks_hashes x1 x2) fun r44 =>
    mo_bz r44 (some r44)
  ) (
    mo_rI f_scores 61 x1 fun v20 =>
    mo_rI f_scores 61 x2 fun v26 =>
    mo_br (v26 ≤ v20) (
      some ((0 : Int32))
    ) (
      some ((1 : Int32))
    )
  )
def m_dg_sortByScore_L32 (f_scores : Nat → Int32) (f_blocks_hashes : Nat → Int32) (z5_4 : Int32) (bk32 : Int32 × (Nat → Int32) → Option (Int32 × (Nat → Int32))) : Int32 × (Nat → Int32) → Option (Int32 × (Nat → Int32))
  | (z32_5, z32_f_sorted) =>
    mo_br (z32_5 ≤ 0) (
      some (z32_5, z32_f_sorted)
    ) (
      mo_rI z32_f_sorted 60 (z32_5 - 1) fun v48 =>
      mo_bd (m_dg_isBefore f_scores f_blocks_hashes z5_4 v48) fun r49 =>
      mo_br (r49 = 0) (
        some (z32_5, z32_f_sorted)
      ) (
        mo_rI z32_f_sorted 60 (z32_5 - 1) fun v69 =>
        mo_wI z32_f_sorted 60 z32_5 v69 fun g70 =>
        bk32 (z32_5 + (-1), g70)
      )
    )
def m_dg_sortByScore_L5 (v_blocks_made : Int32) (f_scores : Nat → Int32) (f_blocks_hashes : Nat → Int32) (x1 : Int64) (bk5 : Int32 × Int32 × (Nat → Int32) → Option (Int32 × (Nat → Int32))) : Int32 × Int32 × (Nat → Int32) → Option (Int32 × (Nat → Int32))
  | (z5_3, z5_4, z5_f_sorted) =>
    mo_br (v_blocks_made ≤ z5_4) (
      some (z5_3, z5_f_sorted)
    ) (
      mo_bd (m_bm_holds x1 z5_4) fun r20 =>
      mo_jn (fun (y89_3 : Int32) (y89_f_sorted : Nat → Int32) =>
        bk5 (y89_3, z5_4 + 1, y89_f_sorted)
      ) fun j89 =>
      mo_br (r20 = 0) (
        j89 z5_3 z5_f_sorted
      ) (
        mo_bd (mo_lp (m_dg_sortByScore_L32 f_scores f_blocks_hashes z5_4) 1000 (z5_3, z5_f_sorted)) fun (y32_5, y32_f_sorted) =>
        mo_wI y32_f_sorted 60 y32_5 z5_4 fun g85 =>
        j89 (z5_3 + 1) g85
      )
    )
def m_dg_sortByScore (v_blocks_made : Int32) (f_sorted : Nat → Int32) (f_scores : Nat → Int32) (f_blocks_hashes : Nat → Int32) (x1 : Int64) : Option (Int32 × (Nat → Int32)) :=
  mo_bd (mo_lp (m_dg_sortByScore_L5 v_blocks_made f_scores f_blocks_hashes x1) 1000 (0, 0, f_sorted)) fun (y5_3, y5_f_sorted) =>
  some (y5_3, y5_f_sorted)
def m_dg_anticone (v_members : Int64) (f_past : Nat → Int64) (f_future : Nat → Int64) (x1 : Int32) : Option (Int64) :=
  mo_rL f_past 61 x1 fun v9 =>
  mo_rL f_future 60 x1 fun v20 =>
  mo_bd (m_bm_bit x1) fun r27 =>
  some (((v_members &&& (v9 ^^^ ((-1)))) &&& (v20 ^^^ ((-1)))) &&& (r27 ^^^ ((-1))))
def m_jl_bitCount (x0 : Int64) : Option (Int32) :=
  some ((((((((((x0 - (((x0.toUInt64 >>> ((1 : Int32).toInt64.toUInt64 &&& Int64.toUInt64 63)).toInt64) &&& 6148914691236517205)) &&& 3689348814741910323) + ((((x0 - (((x0.toUInt64 >>> ((1 : Int32).toInt64.toUInt64 &&& Int64.toUInt64 63)).toInt64) &&& 6148914691236517205)).toUInt64 >>> ((2 : Int32).toInt64.toUInt64 &&& Int64.toUInt64 63)).toInt64) &&& 3689348814741910323)) + (((((x0 - (((x0.toUInt64 >>> ((1 : Int32).toInt64.toUInt64 &&& Int64.toUInt64 63)).toInt64) &&& 6148914691236517205)) &&& 3689348814741910323) + ((((x0 - (((x0.toUInt64 >>> ((1 : Int32).toInt64.toUInt64 &&& Int64.toUInt64 63)).toInt64) &&& 6148914691236517205)).toUInt64 >>> ((2 : Int32).toInt64.toUInt64 &&& Int64.toUInt64 63)).toInt64) &&& 3689348814741910323)).toUInt64 >>> ((4 : Int32).toInt64.toUInt64 &&& Int64.toUInt64 63)).toInt64)) &&& 1085102592571150095) + (((((((x0 - (((x0.toUInt64 >>> ((1 : Int32).toInt64.toUInt64 &&& Int64.toUInt64 63)).toInt64) &&& 6148914691236517205)) &&& 3689348814741910323) + ((((x0 - (((x0.toUInt64 >>> ((1 : Int32).toInt64.toUInt64 &&& Int64.toUInt64 63)).toInt64) &&& 6148914691236517205)).toUInt64 >>> ((2 : Int32).toInt64.toUInt64 &&& Int64.toUInt64 63)).toInt64) &&& 3689348814741910323)) + (((((x0 - (((x0.toUInt64 >>> ((1 : Int32).toInt64.toUInt64 &&& Int64.toUInt64 63)).toInt64) &&& 6148914691236517205)) &&& 3689348814741910323) + ((((x0 - (((x0.toUInt64 >>> ((1 : Int32).toInt64.toUInt64 &&& Int64.toUInt64 63)).toInt64) &&& 6148914691236517205)).toUInt64 >>> ((2 : Int32).toInt64.toUInt64 &&& Int64.toUInt64 63)).toInt64) &&& 3689348814741910323)).toUInt64 >>> ((4 : Int32).toInt64.toUInt64 &&& Int64.toUInt64 63)).toInt64)) &&& 1085102592571150095).toUInt64 >>> ((8 : Int32).toInt64.toUInt64 &&& Int64.toUInt64 63)).toInt64)) + ((((((((x0 - (((x0.toUInt64 >>> ((1 : Int32).toInt64.toUInt64 &&& Int64.toUInt64 63)).toInt64) &&& 6148914691236517205)) &&& 3689348814741910323) + ((((x0 - (((x0.toUInt64 >>> ((1 : Int32).toInt64.toUInt64 &&& Int64.toUInt64 63)).toInt64) &&& 6148914691236517205)).toUInt64 >>> ((2 : Int32).toInt64.toUInt64 &&& Int64.toUInt64 63)).toInt64) &&& 3689348814741910323)) + (((((x0 - (((x0.toUInt64 >>> ((1 : Int32).toInt64.toUInt64 &&& Int64.toUInt64 63)).toInt64) &&& 6148914691236517205)) &&& 3689348814741910323) + ((((x0 - (((x0.toUInt64 >>> ((1 : Int32).toInt64.toUInt64 &&& Int64.toUInt64 63)).toInt64) &&& 6148914691236517205)).toUInt64 >>> ((2 : Int32).toInt64.toUInt64 &&& Int64.toUInt64 63)).toInt64) &&& 3689348814741910323)).toUInt64 >>> ((4 : Int32).toInt64.toUInt64 &&& Int64.toUInt64 63)).toInt64)) &&& 1085102592571150095) + (((((((x0 - (((x0.toUInt64 >>> ((1 : Int32).toInt64.toUInt64 &&& Int64.toUInt64 63)).toInt64) &&& 6148914691236517205)) &&& 3689348814741910323) + ((((x0 - (((x0.toUInt64 >>> ((1 : Int32).toInt64.toUInt64 &&& Int64.toUInt64 63)).toInt64) &&& 6148914691236517205)).toUInt64 >>> ((2 : Int32).toInt64.toUInt64 &&& Int64.toUInt64 63)).toInt64) &&& 3689348814741910323)) + (((((x0 - (((x0.toUInt64 >>> ((1 : Int32).toInt64.toUInt64 &&& Int64.toUInt64 63)).toInt64) &&& 6148914691236517205)) &&& 3689348814741910323) + ((((x0 - (((x0.toUInt64 >>> ((1 : Int32).toInt64.toUInt64 &&& Int64.toUInt64 63)).toInt64) &&& 6148914691236517205)).toUInt64 >>> ((2 : Int32).toInt64.toUInt64 &&& Int64.toUInt64 63)).toInt64) &&& 3689348814741910323)).toUInt64 >>> ((4 : Int32).toInt64.toUInt64 &&& Int64.toUInt64 63)).toInt64)) &&& 1085102592571150095).toUInt64 >>> ((8 : Int32).toInt64.toUInt64 &&& Int64.toUInt64 63)).toInt64)).toUInt64 >>> ((16 : Int32).toInt64.toUInt64 &&& Int64.toUInt64 63)).toInt64)) + (((((((((x0 - (((x0.toUInt64 >>> ((1 : Int32).toInt64.toUInt64 &&& Int64.toUInt64 63)).toInt64) &&& 6148914691236517205)) &&& 3689348814741910323) + ((((x0 - (((x0.toUInt64 >>> ((1 : Int32).toInt64.toUInt64 &&& Int64.toUInt64 63)).toInt64) &&& 6148914691236517205)).toUInt64 >>> ((2 : Int32).toInt64.toUInt64 &&& Int64.toUInt64 63)).toInt64) &&& 3689348814741910323)) + (((((x0 - (((x0.toUInt64 >>> ((1 : Int32).toInt64.toUInt64 &&& Int64.toUInt64 63)).toInt64) &&& 6148914691236517205)) &&& 3689348814741910323) + ((((x0 - (((x0.toUInt64 >>> ((1 : Int32).toInt64.toUInt64 &&& Int64.toUInt64 63)).toInt64) &&& 6148914691236517205)).toUInt64 >>> ((2 : Int32).toInt64.toUInt64 &&& Int64.toUInt64 63)).toInt64) &&& 3689348814741910323)).toUInt64 >>> ((4 : Int32).toInt64.toUInt64 &&& Int64.toUInt64 63)).toInt64)) &&& 1085102592571150095) + (((((((x0 - (((x0.toUInt64 >>> ((1 : Int32).toInt64.toUInt64 &&& Int64.toUInt64 63)).toInt64) &&& 6148914691236517205)) &&& 3689348814741910323) + ((((x0 - (((x0.toUInt64 >>> ((1 : Int32).toInt64.toUInt64 &&& Int64.toUInt64 63)).toInt64) &&& 6148914691236517205)).toUInt64 >>> ((2 : Int32).toInt64.toUInt64 &&& Int64.toUInt64 63)).toInt64) &&& 3689348814741910323)) + (((((x0 - (((x0.toUInt64 >>> ((1 : Int32).toInt64.toUInt64 &&& Int64.toUInt64 63)).toInt64) &&& 6148914691236517205)) &&& 3689348814741910323) + ((((x0 - (((x0.toUInt64 >>> ((1 : Int32).toInt64.toUInt64 &&& Int64.toUInt64 63)).toInt64) &&& 6148914691236517205)).toUInt64 >>> ((2 : Int32).toInt64.toUInt64 &&& Int64.toUInt64 63)).toInt64) &&& 3689348814741910323)).toUInt64 >>> ((4 : Int32).toInt64.toUInt64 &&& Int64.toUInt64 63)).toInt64)) &&& 1085102592571150095).toUInt64 >>> ((8 : Int32).toInt64.toUInt64 &&& Int64.toUInt64 63)).toInt64)) + ((((((((x0 - (((x0.toUInt64 >>> ((1 : Int32).toInt64.toUInt64 &&& Int64.toUInt64 63)).toInt64) &&& 6148914691236517205)) &&& 3689348814741910323) + ((((x0 - (((x0.toUInt64 >>> ((1 : Int32).toInt64.toUInt64 &&& Int64.toUInt64 63)).toInt64) &&& 6148914691236517205)).toUInt64 >>> ((2 : Int32).toInt64.toUInt64 &&& Int64.toUInt64 63)).toInt64) &&& 3689348814741910323)) + (((((x0 - (((x0.toUInt64 >>> ((1 : Int32).toInt64.toUInt64 &&& Int64.toUInt64 63)).toInt64) &&& 6148914691236517205)) &&& 3689348814741910323) + ((((x0 - (((x0.toUInt64 >>> ((1 : Int32).toInt64.toUInt64 &&& Int64.toUInt64 63)).toInt64) &&& 6148914691236517205)).toUInt64 >>> ((2 : Int32).toInt64.toUInt64 &&& Int64.toUInt64 63)).toInt64) &&& 3689348814741910323)).toUInt64 >>> ((4 : Int32).toInt64.toUInt64 &&& Int64.toUInt64 63)).toInt64)) &&& 1085102592571150095) + (((((((x0 - (((x0.toUInt64 >>> ((1 : Int32).toInt64.toUInt64 &&& Int64.toUInt64 63)).toInt64) &&& 6148914691236517205)) &&& 3689348814741910323) + ((((x0 - (((x0.toUInt64 >>> ((1 : Int32).toInt64.toUInt64 &&& Int64.toUInt64 63)).toInt64) &&& 6148914691236517205)).toUInt64 >>> ((2 : Int32).toInt64.toUInt64 &&& Int64.toUInt64 63)).toInt64) &&& 3689348814741910323)) + (((((x0 - (((x0.toUInt64 >>> ((1 : Int32).toInt64.toUInt64 &&& Int64.toUInt64 63)).toInt64) &&& 6148914691236517205)) &&& 3689348814741910323) + ((((x0 - (((x0.toUInt64 >>> ((1 : Int32).toInt64.toUInt64 &&& Int64.toUInt64 63)).toInt64) &&& 6148914691236517205)).toUInt64 >>> ((2 : Int32).toInt64.toUInt64 &&& Int64.toUInt64 63)).toInt64) &&& 3689348814741910323)).toUInt64 >>> ((4 : Int32).toInt64.toUInt64 &&& Int64.toUInt64 63)).toInt64)) &&& 1085102592571150095).toUInt64 >>> ((8 : Int32).toInt64.toUInt64 &&& Int64.toUInt64 63)).toInt64)).toUInt64 >>> ((16 : Int32).toInt64.toUInt64 &&& Int64.toUInt64 63)).toInt64)).toUInt64 >>> ((32 : Int32).toInt64.toUInt64 &&& Int64.toUInt64 63)).toInt64)).toInt32) &&& 127)
def m_dg_fits_L26 (v_k : Int32) (v_members : Int64) (f_past : Nat → Int64) (f_future : Nat → Int64) (v_blocks_made : Int32) (x2 : Int64) (r3 : Int64) (bk26 : Int32 → Option (Int32)) : Int32 → Option (Int32)
  | z26_6 =>
    mo_br (v_blocks_made ≤ z26_6) (
      some ((1 : Int32))
    ) (
      mo_bd (m_bm_holds (x2 &&& r3) z26_6) fun r42 =>
      mo_jn (
        bk26 (z26_6 + 1)
      ) fun j68 =>
      mo_br (r42 = 0) (
        j68
      ) (
        mo_bd (m_dg_anticone v_members f_past f_future z26_6) fun r52 =>
        mo_bd (m_jl_bitCount (x2 &&& r52)) fun r56 =>
        mo_br (r56 < v_k) (
          j68
        ) (
          some ((0 : Int32))
        )
      )
    )
def m_dg_fits (v_k : Int32) (v_members : Int64) (f_past : Nat → Int64) (f_future : Nat → Int64) (v_blocks_made : Int32) (x1 : Int32) (x2 : Int64) : Option (Int32) :=
  mo_bd (m_dg_anticone v_members f_past f_future x1) fun r3 =>
  mo_bd (m_jl_bitCount (x2 &&& r3)) fun r11 =>
  mo_br (r11 ≤ v_k) (
    mo_lp (m_dg_fits_L26 v_k v_members f_past f_future v_blocks_made x2 r3) 1000 0
  ) (
    some ((0 : Int32))
  )
def m_dg_settle_L64 (v_k : Int32) (v_members : Int64) (v_blocks_made : Int32) (f_future : Nat → Int64) (g34 : Nat → Int64) (r56 : Int32) (r56_0 : Nat → Int32) (bk64 : Int64 × Int32 → Option (Int64)) : Int64 × Int32 → Option (Int64)
  | (z64_5, z64_8) =>
    mo_br (r56 ≤ z64_8) (
      some z64_5
    ) (
      mo_rI r56_0 60 z64_8 fun v78 =>
      mo_bd (m_dg_fits v_k v_members g34 f_future v_blocks_made v78 z64_5) fun r81 =>
      mo_jn (fun (y102_5 : Int64) =>
        bk64 (y102_5, z64_8 + 1)
      ) fun j102 =>
      mo_br (r81 = 0) (
        j102 z64_5
      ) (
        mo_rI r56_0 60 z64_8 fun v95 =>
        mo_bd (m_bm_bit v95) fun r96 =>
        j102 (z64_5 ||| r96)
      )
    )
def m_dg_settle (v_k : Int32) (v_members : Int64) (v_blocks_made : Int32) (f_scores : Nat → Int32) (f_blocks_hashes : Nat → Int32) (f_selected : Nat → Int32) (f_past : Nat → Int64) (f_blues : Nat → Int64) (f_sorted : Nat → Int32) (f_future : Nat → Int64) (x1 : Int32) (x2 : Int64) : Option ((Nat → Int32) × (Nat → Int32) × (Nat → Int64) × (Nat → Int64) × (Nat → Int32)) :=
  mo_bd (m_dg_heaviest v_blocks_made f_scores f_blocks_hashes x2) fun r2 =>
  mo_wI f_selected 61 x1 r2 fun g14 =>
  mo_br (r2 = ((-1))) (
    some (f_scores, g14, f_past, f_blues, f_sorted)
  ) (
    mo_bd (m_dg_pastOf v_blocks_made f_past x2) fun r30 =>
    mo_wL f_past 61 x1 (x2 ||| r30) fun g34 =>
    mo_rL f_blues 61 r2 fun v41 =>
    mo_bd (m_bm_bit r2) fun r44 =>
    mo_bd (m_dg_mergedBy g14 g34 x1) fun r53 =>
    mo_bd (m_dg_sortByScore v_blocks_made f_sorted f_scores f_blocks_hashes r53) fun (r56, r56_0) =>
    mo_bd (mo_lp (m_dg_settle_L64 v_k v_members v_blocks_made f_future g34 r56 r56_0) 1000 (v41 ||| r44, 0)) fun y64_5 =>
    mo_wL f_blues 61 x1 y64_5 fun g115 =>
    mo_bd (m_jl_bitCount y64_5) fun r123 =>
    mo_wI f_scores 61 x1 r123 fun g126 =>
    some (g126, g14, g34, g115, r56_0)
  )
def m_dg_attach_L18 (v_blocks_made : Int32) (x1 : Int32) (r12_2 : Nat → Int64) (bk18 : Int32 × (Nat → Int64) → Option ((Nat → Int64))) : Int32 × (Nat → Int64) → Option ((Nat → Int64))
  | (z18_4, z18_f_future) =>
    mo_br (v_blocks_made ≤ z18_4) (
      some z18_f_future
    ) (
      mo_rL r12_2 61 x1 fun v35 =>
      mo_bd (m_bm_holds v35 z18_4) fun r38 =>
      mo_jn (fun (y58_f_future : Nat → Int64) =>
        bk18 (z18_4 + 1, y58_f_future)
      ) fun j58 =>
      mo_br (r38 = 0) (
        j58 z18_f_future
      ) (
        mo_rL z18_f_future 60 z18_4 fun v51 =>
        mo_bd (m_bm_bit x1) fun r53 =>
        mo_wL z18_f_future 60 z18_4 (v51 ||| r53) fun g57 =>
        j58 g57
      )
    )
def m_dg_attach (v_k : Int32) (v_members : Int64) (v_tips : Int64) (v_blocks_made : Int32) (f_blocks_parentCounts : Nat → Int32) (f_blocks_parents : Nat → Int32) (f_scores : Nat → Int32) (f_blocks_hashes : Nat → Int32) (f_selected : Nat → Int32) (f_past : Nat → Int64) (f_blues : Nat → Int64) (f_sorted : Nat → Int32) (f_future : Nat → Int64) (x1 : Int32) : Option (Int64 × Int64 × (Nat → Int32) × (Nat → Int32) × (Nat → Int64) × (Nat → Int64) × (Nat → Int32) × (Nat → Int64)) :=
  mo_bd (m_bl_parentSet f_blocks_parentCounts f_blocks_parents x1) fun r5 =>
  mo_bd (m_dg_settle v_k v_members v_blocks_made f_scores f_blocks_hashes f_selected f_past f_blues f_sorted f_future x1 r5) fun (r12_0, r12_1, r12_2, r12_3, r12_4) =>
  mo_bd (mo_lp (m_dg_attach_L18 v_blocks_made x1 r12_2) 1000 (0, f_future)) fun y18_f_future =>
  mo_bd (m_bm_bit x1) fun r70 =>
  mo_bd (m_bm_bit x1) fun r89 =>
  some (v_members ||| r70, (v_tips &&& (r5 ^^^ ((-1)))) ||| r89, r12_0, r12_1, r12_2, r12_3, r12_4, y18_f_future)
def m_dg_size (v_members : Int64) : Option (Int32) :=
  mo_bd (m_jl_bitCount v_members) fun r4 =>
  some r4
def m_dg_settleVirtual_L20 (v_blocks_made : Int32) (f_blocks_hashes : Nat → Int32) (r7_0 : Nat → Int32) (r7_1 : Nat → Int32) (r7_2 : Nat → Int64) (bk20 : Int32 × Int32 × Int32 × (Nat → Int32) × (Nat → Int32) → Option ((Nat → Int32) × (Nat → Int32))) : Int32 × Int32 × Int32 × (Nat → Int32) × (Nat → Int32) → Option ((Nat → Int32) × (Nat → Int32))
  | (z20_1, z20_2, z20_3, z20_f_sorted, z20_f_sequence) =>
    mo_br (60 ≤ z20_3) (
      some (z20_f_sorted, z20_f_sequence)
    ) (
      mo_br (z20_2 = 0) (
        some (z20_f_sorted, z20_f_sequence)
      ) (
        mo_bd (m_dg_mergedBy r7_1 r7_2 z20_2) fun r33 =>
        mo_bd (m_dg_sortByScore v_blocks_made z20_f_sorted r7_0 f_blocks_hashes r33) fun (r36, r36_0) =>
        mo_cp r36_0 60 z20_f_sequence 60 0 (z20_1 - r36) r36 fun g58 =>
        mo_rI r7_1 61 z20_2 fun v69 =>
        mo_wI g58 60 (z20_1 - r36 + (-1)) v69 fun g77 =>
        bk20 (z20_1 - r36 + (-1), v69, z20_3 + 1, r36_0, g77)
      )
    )
def m_dg_settleVirtual (v_k : Int32) (v_members : Int64) (v_tips : Int64) (v_blocks_made : Int32) (f_scores : Nat → Int32) (f_blocks_hashes : Nat → Int32) (f_selected : Nat → Int32) (f_past : Nat → Int64) (f_blues : Nat → Int64) (f_sorted : Nat → Int32) (f_future : Nat → Int64) (f_sequence : Nat → Int32) : Option ((Nat → Int32) × (Nat → Int32) × (Nat → Int64) × (Nat → Int64) × (Nat → Int32) × (Nat → Int32)) :=
  mo_bd (m_dg_settle v_k v_members v_blocks_made f_scores f_blocks_hashes f_selected f_past f_blues f_sorted f_future 60 v_tips) fun (r7_0, r7_1, r7_2, r7_3, r7_4) =>
  mo_bd (m_dg_size v_members) fun r11 =>
  mo_bd (mo_lp (m_dg_settleVirtual_L20 v_blocks_made f_blocks_hashes r7_0 r7_1 r7_2) 1000 (r11, 60, 0, r7_4, f_sequence)) fun (y20_f_sorted, y20_f_sequence) =>
  some (r7_0, r7_1, r7_2, r7_3, y20_f_sorted, y20_f_sequence)
def m_ja_fill_L5 (n_p0 : Nat) (x1 : Int32) (bk5 : Int32 × (Nat → Int32) → Option ((Nat → Int32))) : Int32 × (Nat → Int32) → Option ((Nat → Int32))
  | (z5_2, z5_f_p0) =>
    mo_br ((Int32.ofNat n_p0) ≤ z5_2) (
      some z5_f_p0
    ) (
      mo_wI z5_f_p0 n_p0 z5_2 x1 fun g13 =>
      bk5 (z5_2 + 1, g13)
    )
def m_ja_fill (f_p0 : Nat → Int32) (n_p0 : Nat) (x1 : Int32) : Option ((Nat → Int32)) :=
  mo_bd (mo_lp (m_ja_fill_L5 n_p0 x1) 1000 (0, f_p0)) fun y5_f_p0 =>
  some y5_f_p0
def m_bl_includedAt (f_included : Nat → Int32) (x1 : Int32) (x2 : Int32) : Option (Int32) :=
  mo_rI f_included 180 ((x1 * 3) + x2) fun v9 =>
  some v9
def m_le_hasAccepted (v_accepted : Int64) (x1 : Int32) : Option (Int32) :=
  mo_bd (m_bm_holds v_accepted x1) fun r5 =>
  mo_bz r5 (some r5)
def m_le_lockOf (f_transactions_outputLocks : Nat → Int32) (f_blocks_locks : Nat → Int32) (x1 : Int32) : Option (Int32) :=
  mo_br (80 ≤ x1) (
    mo_rI f_blocks_locks 60 (x1 - 80) fun v29 =>
    some v29
  ) (
    mo_rI f_transactions_outputLocks 82 x1 fun v14 =>
    some v14
  )
def m_le_inputSum_L7 (f_transactions_inputCounts : Nat → Int32) (f_transactions_inputSlots : Nat → Int32) (f_amounts : Nat → Int32) (f_transactions_outputLocks : Nat → Int32) (f_blocks_locks : Nat → Int32) (f_transactions_inputLocks : Nat → Int32) (x1 : Int32) (bk7 : Int32 × Int32 × Int32 → Option (Int32)) : Int32 × Int32 × Int32 → Option (Int32)
  | (z7_2, z7_3, z7_4) =>
    mo_rI f_transactions_inputCounts 41 x1 fun v17 =>
    mo_br (v17 ≤ z7_4) (
      some z7_2
    ) (
      mo_rI f_transactions_inputSlots 82 ((x1 * 2) + z7_4) fun v38 =>
      mo_rI f_amounts 140 v38 fun v47 =>
      mo_br (v47 = ((-1))) (
        some (((-1) : Int32))
      ) (
        mo_br (v38 = z7_3) (
          some (((-1) : Int32))
        ) (
          mo_bd (m_le_lockOf f_transactions_outputLocks f_blocks_locks v38) fun r61 =>
          mo_rI f_transactions_inputLocks 82 ((x1 * 2) + z7_4) fun v73 =>
          mo_br (r61 = v73) (
            mo_rI f_amounts 140 v38 fun v86 =>
            bk7 (z7_2 + v86, v38, z7_4 + 1)
          ) (
            some (((-1) : Int32))
          )
        )
      )
    )
def m_le_inputSum (f_transactions_inputCounts : Nat → Int32) (f_transactions_inputSlots : Nat → Int32) (f_amounts : Nat → Int32) (f_transactions_outputLocks : Nat → Int32) (f_blocks_locks : Nat → Int32) (f_transactions_inputLocks : Nat → Int32) (x1 : Int32) : Option (Int32) :=
  mo_lp (m_le_inputSum_L7 f_transactions_inputCounts f_transactions_inputSlots f_amounts f_transactions_outputLocks f_blocks_locks f_transactions_inputLocks x1) 1000 (0, (-1), 0)
def m_tr_outputSum_L9 (f_outputCounts : Nat → Int32) (f_outputAmounts : Nat → Int32) (x1 : Int32) (bk9 : Int32 × Int32 → Option (Int32)) : Int32 × Int32 → Option (Int32)
  | (z9_2, z9_4) =>
    mo_rI f_outputCounts 41 x1 fun v17 =>
    mo_br (((x1 * 2) + v17) ≤ z9_4) (
      some z9_2
    ) (
      mo_rI f_outputAmounts 82 z9_4 fun v29 =>
      bk9 (z9_2 + v29, z9_4 + 1)
    )
def m_tr_outputSum (f_outputCounts : Nat → Int32) (f_outputAmounts : Nat → Int32) (x1 : Int32) : Option (Int32) :=
  mo_bd (mo_lp (m_tr_outputSum_L9 f_outputCounts f_outputAmounts x1) 1000 (0, x1 * 2)) fun y9_2 =>
  some y9_2
def m_le_feeOf (v_accepted : Int64) (f_transactions_inputCounts : Nat → Int32) (f_transactions_inputSlots : Nat → Int32) (f_amounts : Nat → Int32) (f_transactions_outputLocks : Nat → Int32) (f_blocks_locks : Nat → Int32) (f_transactions_inputLocks : Nat → Int32) (f_transactions_outputCounts : Nat → Int32) (f_transactions_outputAmounts : Nat → Int32) (x1 : Int32) : Option (Int32) :=
  mo_bd (m_le_hasAccepted v_accepted x1) fun r2 =>
  mo_jn (fun (s17_0 : Int32) =>
    mo_bd (m_tr_outputSum f_transactions_outputCounts f_transactions_outputAmounts x1) fun r23 =>
    mo_br (r23 ≤ s17_0) (
      some (s17_0 - r23)
    ) (
      some (((-1) : Int32))
    )
  ) fun j17 =>
  mo_br (r2 = 0) (
    mo_bd (m_le_inputSum f_transactions_inputCounts f_transactions_inputSlots f_amounts f_transactions_outputLocks f_blocks_locks f_transactions_inputLocks x1) fun r14 =>
    j17 r14
  ) (
    j17 ((-1))
  )
def m_le_accept_L55 (f_transactions_outputCounts : Nat → Int32) (f_transactions_outputAmounts : Nat → Int32) (x1 : Int32) (bk55 : Int32 × (Nat → Int32) → Option ((Nat → Int32))) : Int32 × (Nat → Int32) → Option ((Nat → Int32))
  | (z55_3, z55_f_amounts) =>
    mo_rI f_transactions_outputCounts 41 x1 fun v64 =>
    mo_br (v64 ≤ z55_3) (
      some z55_f_amounts
    ) (
      mo_rI f_transactions_outputAmounts 82 ((x1 * 2) + z55_3) fun v90 =>
      mo_wI z55_f_amounts 140 ((x1 * 2) + z55_3) v90 fun g91 =>
      bk55 (z55_3 + 1, g91)
    )
def m_le_accept_L15 (f_transactions_inputCounts : Nat → Int32) (f_transactions_inputSlots : Nat → Int32) (x1 : Int32) (bk15 : Int32 × (Nat → Int32) → Option ((Nat → Int32))) : Int32 × (Nat → Int32) → Option ((Nat → Int32))
  | (z15_3, z15_f_amounts) =>
    mo_rI f_transactions_inputCounts 41 x1 fun v24 =>
    mo_br (v24 ≤ z15_3) (
      some z15_f_amounts
    ) (
      mo_rI f_transactions_inputSlots 82 ((x1 * 2) + z15_3) fun v44 =>
      mo_wI z15_f_amounts 140 v44 ((-1)) fun g46 =>
      bk15 (z15_3 + 1, g46)
    )
def m_le_accept (v_accepted : Int64) (f_transactions_inputCounts : Nat → Int32) (f_transactions_inputSlots : Nat → Int32) (f_amounts : Nat → Int32) (f_transactions_outputLocks : Nat → Int32) (f_blocks_locks : Nat → Int32) (f_transactions_inputLocks : Nat → Int32) (f_transactions_outputCounts : Nat → Int32) (f_transactions_outputAmounts : Nat → Int32) (x1 : Int32) : Option (Int32 × Int64 × (Nat → Int32)) :=
  mo_bd (m_le_feeOf v_accepted f_transactions_inputCounts f_transactions_inputSlots f_amounts f_transactions_outputLocks f_blocks_locks f_transactions_inputLocks f_transactions_outputCounts f_transactions_outputAmounts x1) fun r2 =>
  mo_br (r2 = ((-1))) (
    some (((-1) : Int32), v_accepted, f_amounts)
  ) (
    mo_bd (mo_lp (m_le_accept_L15 f_transactions_inputCounts f_transactions_inputSlots x1) 1000 (0, f_amounts)) fun y15_f_amounts =>
    mo_bd (mo_lp (m_le_accept_L55 f_transactions_outputCounts f_transactions_outputAmounts x1) 1000 (0, y15_f_amounts)) fun y55_f_amounts =>
    mo_bd (m_bm_bit x1) fun r104 =>
    some (r2, v_accepted ||| r104, y55_f_amounts)
  )
def m_dg_isBlue (f_blues : Nat → Int64) (x1 : Int32) : Option (Int32) :=
  mo_rL f_blues 61 60 fun v6 =>
  mo_bd (m_bm_holds v6 x1) fun r8 =>
  mo_bz r8 (some r8)
def m_le_replay_L36 (f_blocks_includedCounts : Nat → Int32) (f_blocks_included : Nat → Int32) (f_transactions_inputCounts : Nat → Int32) (f_transactions_inputSlots : Nat → Int32) (f_transactions_outputLocks : Nat → Int32) (f_blocks_locks : Nat → Int32) (f_transactions_inputLocks : Nat → Int32) (f_transactions_outputCounts : Nat → Int32) (f_transactions_outputAmounts : Nat → Int32) (v28 : Int32) (bk36 : Int32 × Int32 × Int64 × (Nat → Int32) → Option (Int32 × Int64 × (Nat → Int32))) : Int32 × Int32 × Int64 × (Nat → Int32) → Option (Int32 × Int64 × (Nat → Int32))
  | (z36_4, z36_5, z36_v_accepted, z36_f_amounts) =>
    mo_rI f_blocks_includedCounts 60 v28 fun v46 =>
    mo_br (v46 ≤ z36_5) (
      some (z36_4, z36_v_accepted, z36_f_amounts)
    ) (
      mo_bd (m_bl_includedAt f_blocks_included v28 z36_5) fun r60 =>
      mo_bd (m_le_accept z36_v_accepted f_transactions_inputCounts f_transactions_inputSlots z36_f_amounts f_transactions_outputLocks f_blocks_locks f_transactions_inputLocks f_transactions_outputCounts f_transactions_outputAmounts r60) fun (r63, r63_0, r63_1) =>
      bk36 (z36_4 + (mo_max r63 0), z36_5 + 1, r63_0, r63_1)
    )
def m_le_replay_L15 (v_p1_members : Int64) (f_p1_sequence : Nat → Int32) (f_blocks_includedCounts : Nat → Int32) (f_blocks_included : Nat → Int32) (f_transactions_inputCounts : Nat → Int32) (f_transactions_inputSlots : Nat → Int32) (f_transactions_outputLocks : Nat → Int32) (f_blocks_locks : Nat → Int32) (f_transactions_inputLocks : Nat → Int32) (f_transactions_outputCounts : Nat → Int32) (f_transactions_outputAmounts : Nat → Int32) (f_p1_blues : Nat → Int64) (f_p1_scores : Nat → Int32) (bk15 : Int32 × Int64 × (Nat → Int32) → Option (Int64 × (Nat → Int32))) : Int32 × Int64 × (Nat → Int32) → Option (Int64 × (Nat → Int32))
  | (z15_2, z15_v_accepted, z15_f_amounts) =>
    mo_bd (m_dg_size v_p1_members) fun r17 =>
    mo_br (r17 ≤ z15_2) (
      some (z15_v_accepted, z15_f_amounts)
    ) (
      mo_rI f_p1_sequence 60 z15_2 fun v28 =>
      mo_bd (mo_lp (m_le_replay_L36 f_blocks_includedCounts f_blocks_included f_transactions_inputCounts f_transactions_inputSlots f_transactions_outputLocks f_blocks_locks f_transactions_inputLocks f_transactions_outputCounts f_transactions_outputAmounts v28) 1000 (0, 0, z15_v_accepted, z15_f_amounts)) fun (y36_4, y36_v_accepted, y36_f_amounts) =>
      mo_bd (m_dg_isBlue f_p1_blues v28) fun r81 =>
      mo_jn (fun (y111_f_amounts : Nat → Int32) =>
        bk15 (z15_2 + 1, y36_v_accepted, y111_f_amounts)
      ) fun j111 =>
      mo_br (r81 = 0) (
        j111 y36_f_amounts
      ) (
        mo_rI f_p1_scores 61 v28 fun v102 =>
        mo_wI y36_f_amounts 140 ((80 : Int32) + v28) (((64 : Int32) >>> ((v102 / 8) &&& 31)) + y36_4) fun g110 =>
        j111 g110
      )
    )
def m_le_replay (v_accepted : Int64) (f_amounts : Nat → Int32) (v_p1_members : Int64) (f_p1_sequence : Nat → Int32) (f_blocks_includedCounts : Nat → Int32) (f_blocks_included : Nat → Int32) (f_transactions_inputCounts : Nat → Int32) (f_transactions_inputSlots : Nat → Int32) (f_transactions_outputLocks : Nat → Int32) (f_blocks_locks : Nat → Int32) (f_transactions_inputLocks : Nat → Int32) (f_transactions_outputCounts : Nat → Int32) (f_transactions_outputAmounts : Nat → Int32) (f_p1_blues : Nat → Int64) (f_p1_scores : Nat → Int32) : Option (Int64 × (Nat → Int32)) :=
  mo_bd (m_ja_fill f_amounts 140 ((-1))) fun r5_0 =>
  mo_bd (mo_lp (m_le_replay_L15 v_p1_members f_p1_sequence f_blocks_includedCounts f_blocks_included f_transactions_inputCounts f_transactions_inputSlots f_transactions_outputLocks f_blocks_locks f_transactions_inputLocks f_transactions_outputCounts f_transactions_outputAmounts f_p1_blues f_p1_scores) 1000 (0, 0, r5_0)) fun (y15_v_accepted, y15_f_amounts) =>
  some (y15_v_accepted, y15_f_amounts)
def m_le_copyFrom (v_accepted : Int64) (v_p1_accepted : Int64) (f_p1_amounts : Nat → Int32) (f_amounts : Nat → Int32) : Option (Int64 × (Nat → Int32)) :=
  mo_cp f_p1_amounts 140 f_amounts 140 0 0 140 fun g13 =>
  some (v_p1_accepted, g13)
def m_nu_at (v_size : Int32) (f_held : Nat → Int32) (n_held : Nat) (x1 : Int32) : Option (Int32) :=
  mo_br (x1 < 0) (
    some (((-1) : Int32))
  ) (
    mo_br (v_size ≤ x1) (
      some (((-1) : Int32))
    ) (
      mo_rI f_held n_held x1 fun v17 =>
      some v17
    )
  )
def m_nu_removeAt_L25 (v_size : Int32) (n_held : Nat) (bk25 : Int32 × (Nat → Int32) → Option ((Nat → Int32))) : Int32 × (Nat → Int32) → Option ((Nat → Int32))
  | (z25_2, z25_f_held) =>
    mo_br ((v_size - 1) ≤ z25_2) (
      some z25_f_held
    ) (
      mo_rI z25_f_held n_held (z25_2 + 1) fun v45 =>
      mo_wI z25_f_held n_held z25_2 v45 fun g46 =>
      bk25 (z25_2 + 1, g46)
    )
def m_nu_removeAt (v_size : Int32) (f_held : Nat → Int32) (n_held : Nat) (x1 : Int32) : Option (Int32 × (Nat → Int32)) :=
  mo_br (x1 < 0) (
    some (v_size, f_held)
  ) (
    mo_br (x1 < v_size) (
      mo_bd (mo_lp (m_nu_removeAt_L25 v_size n_held) 1000 (x1, f_held)) fun y25_f_held =>
      some (v_size - 1, y25_f_held)
    ) (
      some (v_size, f_held)
    )
  )
def m_bm_followDag_L41 (f_transactions_inputCounts : Nat → Int32) (f_transactions_inputSlots : Nat → Int32) (f_transactions_outputLocks : Nat → Int32) (f_blocks_locks : Nat → Int32) (f_transactions_inputLocks : Nat → Int32) (f_transactions_outputCounts : Nat → Int32) (f_transactions_outputAmounts : Nat → Int32) (v_pooled_size : Int32) (bk41 : Int32 × Int32 × Int64 × (Nat → Int32) × Int32 × (Nat → Int32) → Option (Int64 × (Nat → Int32) × Int32 × (Nat → Int32))) : Int32 × Int32 × Int64 × (Nat → Int32) × Int32 × (Nat → Int32) → Option (Int64 × (Nat → Int32) × Int32 × (Nat → Int32))
  | (z41_2, z41_3, z41_v_ahead_accepted, z41_f_ahead_amounts, z41_v_pooled_size, z41_f_pooled_held) =>
    mo_br (v_pooled_size ≤ z41_3) (
      some (z41_v_ahead_accepted, z41_f_ahead_amounts, z41_v_pooled_size, z41_f_pooled_held)
    ) (
      mo_bd (m_nu_at z41_v_pooled_size z41_f_pooled_held 8 z41_2) fun r55 =>
      mo_bd (m_le_accept z41_v_ahead_accepted f_transactions_inputCounts f_transactions_inputSlots z41_f_ahead_amounts f_transactions_outputLocks f_blocks_locks f_transactions_inputLocks f_transactions_outputCounts f_transactions_outputAmounts r55) fun (r58, r58_0, r58_1) =>
      mo_jn (fun (y79_2 : Int32) (y79_v_pooled_size : Int32) (y79_f_pooled_held : Nat → Int32) =>
        bk41 (y79_2, z41_3 + 1, r58_0, r58_1, y79_v_pooled_size, y79_f_pooled_held)
      ) fun j79 =>
      mo_br (r58 = ((-1))) (
        mo_bd (m_nu_removeAt z41_v_pooled_size z41_f_pooled_held 8 z41_2) fun (r70_0, r70_1) =>
        j79 z41_2 r70_0 r70_1
      ) (
        j79 (z41_2 + 1) z41_v_pooled_size z41_f_pooled_held
      )
    )
def m_bm_followDag (v_dag_k : Int32) (v_dag_members : Int64) (v_dag_tips : Int64) (v_blocks_made : Int32) (f_dag_scores : Nat → Int32) (f_blocks_hashes : Nat → Int32) (f_dag_selected : Nat → Int32) (f_dag_past : Nat → Int64) (f_dag_blues : Nat → Int64) (f_dag_sorted : Nat → Int32) (f_dag_future : Nat → Int64) (f_dag_sequence : Nat → Int32) (v_ledger_accepted : Int64) (f_ledger_amounts : Nat → Int32) (f_blocks_includedCounts : Nat → Int32) (f_blocks_included : Nat → Int32) (f_transactions_inputCounts : Nat → Int32) (f_transactions_inputSlots : Nat → Int32) (f_transactions_outputLocks : Nat → Int32) (f_blocks_locks : Nat → Int32) (f_transactions_inputLocks : Nat → Int32) (f_transactions_outputCounts : Nat → Int32) (f_transactions_outputAmounts : Nat → Int32) (v_ahead_accepted : Int64) (f_ahead_amounts : Nat → Int32) (v_pooled_size : Int32) (f_pooled_held : Nat → Int32) : Option ((Nat → Int32) × (Nat → Int32) × (Nat → Int64) × (Nat → Int64) × (Nat → Int32) × (Nat → Int32) × Int64 × (Nat → Int32) × Int64 × (Nat → Int32) × Int32 × (Nat → Int32)) :=
  mo_bd (m_dg_settleVirtual v_dag_k v_dag_members v_dag_tips v_blocks_made f_dag_scores f_blocks_hashes f_dag_selected f_dag_past f_dag_blues f_dag_sorted f_dag_future f_dag_sequence) fun (r4_0, r4_1, r4_2, r4_3, r4_4, r4_5) =>
  mo_bd (m_le_replay v_ledger_accepted f_ledger_amounts v_dag_members r4_5 f_blocks_includedCounts f_blocks_included f_transactions_inputCounts f_transactions_inputSlots f_transactions_outputLocks f_blocks_locks f_transactions_inputLocks f_transactions_outputCounts f_transactions_outputAmounts r4_3 r4_0) fun (r15_0, r15_1) =>
  mo_bd (m_le_copyFrom v_ahead_accepted r15_0 r15_1 f_ahead_amounts) fun (r26_0, r26_1) =>
  mo_bd (mo_lp (m_bm_followDag_L41 f_transactions_inputCounts f_transactions_inputSlots f_transactions_outputLocks f_blocks_locks f_transactions_inputLocks f_transactions_outputCounts f_transactions_outputAmounts v_pooled_size) 1000 (0, 0, r26_0, r26_1, v_pooled_size, f_pooled_held)) fun (y41_v_ahead_accepted, y41_f_ahead_amounts, y41_v_pooled_size, y41_f_pooled_held) =>
  some (r4_0, r4_1, r4_2, r4_3, r4_4, r4_5, r15_0, r15_1, y41_v_ahead_accepted, y41_f_ahead_amounts, y41_v_pooled_size, y41_f_pooled_held)
def m_bm_slotOf (x0 : Int32) (x1 : Int32) : Option (Int32) :=
  mo_jn (
    mo_br (x0 < 100) (
      some (((-1) : Int32))
    ) (
      mo_br (160 ≤ x0) (
        some (((-1) : Int32))
      ) (
        mo_br (x1 = 0) (
          some (((80 : Int32) + x0) - 100)
        ) (
          some (((-1) : Int32))
        )
      )
    )
  ) fun j25 =>
  mo_br (x0 < 0) (
    j25
  ) (
    mo_br (40 ≤ x0) (
      j25
    ) (
      mo_br (x1 < 0) (
        j25
      ) (
        mo_br (2 ≤ x1) (
          j25
        ) (
          some ((x0 * 2) + x1)
        )
      )
    )
  )
def m_tr_has (v_made : Int32) (x1 : Int32) : Option (Int32) :=
  mo_br (x1 < 0) (
    some ((0 : Int32))
  ) (
    mo_br (v_made ≤ x1) (
      some ((0 : Int32))
    ) (
      some ((1 : Int32))
    )
  )
def m_bl_has (v_made : Int32) (x1 : Int32) : Option (Int32) :=
  mo_br (x1 < 0) (
    some ((0 : Int32))
  ) (
    mo_br (v_made ≤ x1) (
      some ((0 : Int32))
    ) (
      some ((1 : Int32))
    )
  )
def m_bm_isSource (v_transactions_made : Int32) (v_blocks_made : Int32) (x1 : Int32) : Option (Int32) :=
  mo_br (100 ≤ x1) (
    mo_bd (m_bl_has v_blocks_made (x1 - 100)) fun r25 =>
    mo_bz r25 (some r25)
  ) (
    mo_bd (m_tr_has v_transactions_made x1) fun r11 =>
    mo_bz r11 (some r11)
  )
def m_bm_fingerprintOf (f_transactions_ids : Nat → Int32) (f_blocks_hashes : Nat → Int32) (x1 : Int32) : Option (Int32) :=
  mo_br (100 ≤ x1) (
    mo_rI f_blocks_hashes 60 (x1 - 100) fun v29 =>
    some v29
  ) (
    mo_rI f_transactions_ids 41 x1 fun v14 =>
    some v14
  )
def m_bm_lockFor (x0 : Int32) : Option (Int32) :=
  mo_bd (m_bm_mix 7 x0) fun r3 =>
  some r3
def m_tr_putInput (v_made : Int32) (f_inputCounts : Nat → Int32) (f_inputSlots : Nat → Int32) (f_inputFingerprints : Nat → Int32) (f_inputOutputs : Nat → Int32) (f_inputSecrets : Nat → Int32) (f_inputLocks : Nat → Int32) (x1 : Int32) (x2 : Int32) (x3 : Int32) (x4 : Int32) : Option (Int32 × (Nat → Int32) × (Nat → Int32) × (Nat → Int32) × (Nat → Int32) × (Nat → Int32) × (Nat → Int32)) :=
  mo_rI f_inputCounts 41 v_made fun v8 =>
  mo_br (v8 = 2) (
    some ((0 : Int32), f_inputCounts, f_inputSlots, f_inputFingerprints, f_inputOutputs, f_inputSecrets, f_inputLocks)
  ) (
    mo_rI f_inputCounts 41 v_made fun v29 =>
    mo_wI f_inputSlots 82 ((v_made * 2) + v29) x1 fun g40 =>
    mo_wI f_inputFingerprints 82 ((v_made * 2) + v29) x2 fun g48 =>
    mo_wI f_inputOutputs 82 ((v_made * 2) + v29) x3 fun g56 =>
    mo_wI f_inputSecrets 82 ((v_made * 2) + v29) x4 fun g65 =>
    mo_bd (m_bm_lockFor x4) fun r74 =>
    mo_wI f_inputLocks 82 ((v_made * 2) + v29) r74 fun g77 =>
    mo_rI f_inputCounts 41 v_made fun v87 =>
    mo_wI f_inputCounts 41 v_made (v87 + 1) fun g90 =>
    some ((1 : Int32), g90, g40, g48, g56, g65, g77)
  )
def m_bm_input (v_transactions_made : Int32) (v_blocks_made : Int32) (f_transactions_ids : Nat → Int32) (f_blocks_hashes : Nat → Int32) (f_transactions_inputCounts : Nat → Int32) (f_transactions_inputSlots : Nat → Int32) (f_transactions_inputFingerprints : Nat → Int32) (f_transactions_inputOutputs : Nat → Int32) (f_transactions_inputSecrets : Nat → Int32) (f_transactions_inputLocks : Nat → Int32) (x1 : Int32) (x2 : Int32) (x3 : Int32) : Option (Int32 × (Nat → Int32) × (Nat → Int32) × (Nat → Int32) × (Nat → Int32) × (Nat → Int32) × (Nat → Int32)) :=
  mo_bd (m_bm_slotOf x1 x2) fun r2 =>
  mo_br (r2 = ((-1))) (
    some ((0 : Int32), f_transactions_inputCounts, f_transactions_inputSlots, f_transactions_inputFingerprints, f_transactions_inputOutputs, f_transactions_inputSecrets, f_transactions_inputLocks)
  ) (
    mo_bd (m_bm_isSource v_transactions_made v_blocks_made x1) fun r15 =>
    mo_br (r15 = 0) (
      some ((0 : Int32), f_transactions_inputCounts, f_transactions_inputSlots, f_transactions_inputFingerprints, f_transactions_inputOutputs, f_transactions_inputSecrets, f_transactions_inputLocks)
    ) (
      mo_bd (m_bm_fingerprintOf f_transactions_ids f_blocks_hashes x1) fun r31 =>
      mo_bd (m_tr_putInput v_transactions_made f_transactions_inputCounts f_transactions_inputSlots f_transactions_inputFingerprints f_transactions_inputOutputs f_transactions_inputSecrets f_transactions_inputLocks r2 r31 x2 x3) fun (r36, r36_0, r36_1, r36_2, r36_3, r36_4, r36_5) =>
      mo_bz r36 (some (r36, r36_0, r36_1, r36_2, r36_3, r36_4, r36_5))
    )
  )
def m_tr_putOutput (v_made : Int32) (f_outputCounts : Nat → Int32) (f_outputLocks : Nat → Int32) (f_outputAmounts : Nat → Int32) (x1 : Int32) (x2 : Int32) : Option (Int32 × (Nat → Int32) × (Nat → Int32) × (Nat → Int32)) :=
  mo_rI f_outputCounts 41 v_made fun v8 =>
  mo_br (v8 = 2) (
    some ((0 : Int32), f_outputCounts, f_outputLocks, f_outputAmounts)
  ) (
    mo_rI f_outputCounts 41 v_made fun v29 =>
    mo_wI f_outputLocks 82 ((v_made * 2) + v29) x1 fun g38 =>
    mo_wI f_outputAmounts 82 ((v_made * 2) + v29) x2 fun g45 =>
    mo_rI f_outputCounts 41 v_made fun v55 =>
    mo_wI f_outputCounts 41 v_made (v55 + 1) fun g58 =>
    some ((1 : Int32), g58, g38, g45)
  )
def m_bm_output (v_transactions_made : Int32) (f_transactions_outputCounts : Nat → Int32) (f_transactions_outputLocks : Nat → Int32) (f_transactions_outputAmounts : Nat → Int32) (x1 : Int32) (x2 : Int32) : Option (Int32 × (Nat → Int32) × (Nat → Int32) × (Nat → Int32)) :=
  mo_br (x2 < 0) (
    some ((0 : Int32), f_transactions_outputCounts, f_transactions_outputLocks, f_transactions_outputAmounts)
  ) (
    mo_br (x2 ≤ 1000) (
      mo_bd (m_bm_lockFor x1) fun r18 =>
      mo_bd (m_tr_putOutput v_transactions_made f_transactions_outputCounts f_transactions_outputLocks f_transactions_outputAmounts r18 x2) fun (r22, r22_0, r22_1, r22_2) =>
      mo_bz r22 (some (r22, r22_0, r22_1, r22_2))
    ) (
      some ((0 : Int32), f_transactions_outputCounts, f_transactions_outputLocks, f_transactions_outputAmounts)
    )
  )
def m_tr_draftId_L72 (v_made : Int32) (f_outputCounts : Nat → Int32) (f_outputLocks : Nat → Int32) (f_outputAmounts : Nat → Int32) (bk72 : Int32 × Int32 → Option (Int32)) : Int32 × Int32 → Option (Int32)
  | (z72_1, z72_4) =>
    mo_rI f_outputCounts 41 v_made fun v83 =>
    mo_br (((v_made * 2) + v83) ≤ z72_4) (
      some z72_1
    ) (
      mo_rI f_outputLocks 82 z72_4 fun v95 =>
      mo_bd (m_bm_mix z72_1 v95) fun r96 =>
      mo_rI f_outputAmounts 82 z72_4 fun v105 =>
      mo_bd (m_bm_mix r96 v105) fun r106 =>
      bk72 (r106, z72_4 + 1)
    )
def m_tr_draftId_L12 (v_made : Int32) (f_inputCounts : Nat → Int32) (f_inputFingerprints : Nat → Int32) (f_inputOutputs : Nat → Int32) (f_inputSecrets : Nat → Int32) (bk12 : Int32 × Int32 → Option (Int32)) : Int32 × Int32 → Option (Int32)
  | (z12_1, z12_3) =>
    mo_rI f_inputCounts 41 v_made fun v22 =>
    mo_br (((v_made * 2) + v22) ≤ z12_3) (
      some z12_1
    ) (
      mo_rI f_inputFingerprints 82 z12_3 fun v33 =>
      mo_bd (m_bm_mix z12_1 v33) fun r34 =>
      mo_rI f_inputOutputs 82 z12_3 fun v42 =>
      mo_bd (m_bm_mix r34 v42) fun r43 =>
      mo_rI f_inputSecrets 82 z12_3 fun v51 =>
      mo_bd (m_bm_mix r43 v51) fun r52 =>
      bk12 (r52, z12_3 + 1)
    )
def m_tr_draftId (v_made : Int32) (f_inputCounts : Nat → Int32) (f_inputFingerprints : Nat → Int32) (f_inputOutputs : Nat → Int32) (f_inputSecrets : Nat → Int32) (f_outputCounts : Nat → Int32) (f_outputLocks : Nat → Int32) (f_outputAmounts : Nat → Int32) : Option (Int32) :=
  mo_bd (mo_lp (m_tr_draftId_L12 v_made f_inputCounts f_inputFingerprints f_inputOutputs f_inputSecrets) 1000 (11, v_made * 2)) fun y12_1 =>
  mo_bd (mo_lp (m_tr_draftId_L72 v_made f_outputCounts f_outputLocks f_outputAmounts) 1000 (y12_1, v_made * 2)) fun y72_1 =>
  some y72_1
def m_tr_finish (v_made : Int32) (f_inputCounts : Nat → Int32) (f_outputCounts : Nat → Int32) (f_inputFingerprints : Nat → Int32) (f_inputOutputs : Nat → Int32) (f_inputSecrets : Nat → Int32) (f_outputLocks : Nat → Int32) (f_outputAmounts : Nat → Int32) (f_ids : Nat → Int32) : Option (Int32 × Int32 × (Nat → Int32)) :=
  mo_br (v_made = 40) (
    some (((-1) : Int32), v_made, f_ids)
  ) (
    mo_rI f_inputCounts 41 v_made fun v17 =>
    mo_br (v17 = 0) (
      some (((-1) : Int32), v_made, f_ids)
    ) (
      mo_rI f_outputCounts 41 v_made fun v29 =>
      mo_br (v29 = 0) (
        some (((-1) : Int32), v_made, f_ids)
      ) (
        mo_bd (m_tr_draftId v_made f_inputCounts f_inputFingerprints f_inputOutputs f_inputSecrets f_outputCounts f_outputLocks f_outputAmounts) fun r44 =>
        mo_wI f_ids 41 v_made r44 fun g47 =>
        some ((v_made + 1) - 1, v_made + 1, g47)
      )
    )
  )
def m_bm_transaction (v_transactions_made : Int32) (f_transactions_inputCounts : Nat → Int32) (f_transactions_outputCounts : Nat → Int32) (f_transactions_inputFingerprints : Nat → Int32) (f_transactions_inputOutputs : Nat → Int32) (f_transactions_inputSecrets : Nat → Int32) (f_transactions_outputLocks : Nat → Int32) (f_transactions_outputAmounts : Nat → Int32) (f_transactions_ids : Nat → Int32) : Option (Int32 × Int32 × (Nat → Int32)) :=
  mo_bd (m_tr_finish v_transactions_made f_transactions_inputCounts f_transactions_outputCounts f_transactions_inputFingerprints f_transactions_inputOutputs f_transactions_inputSecrets f_transactions_outputLocks f_transactions_outputAmounts f_transactions_ids) fun (r4, r4_0, r4_1) =>
  some (r4, r4_0, r4_1)
def m_nu_isFull (v_size : Int32) (n_held : Nat) : Option (Int32) :=
  mo_br (v_size = (Int32.ofNat n_held)) (
    some ((1 : Int32))
  ) (
    some ((0 : Int32))
  )
def m_nu_has_L2 (v_size : Int32) (f_held : Nat → Int32) (n_held : Nat) (x1 : Int32) (bk2 : Int32 → Option (Int32)) : Int32 → Option (Int32)
  | z2_2 =>
    mo_br (v_size ≤ z2_2) (
      some ((0 : Int32))
    ) (
      mo_rI f_held n_held z2_2 fun v15 =>
      mo_br (v15 = x1) (
        some ((1 : Int32))
      ) (
        bk2 (z2_2 + 1)
      )
    )
def m_nu_has (v_size : Int32) (f_held : Nat → Int32) (n_held : Nat) (x1 : Int32) : Option (Int32) :=
  mo_lp (m_nu_has_L2 v_size f_held n_held x1) 1000 0
def m_nu_addNew (v_size : Int32) (f_held : Nat → Int32) (n_held : Nat) (x1 : Int32) : Option (Int32 × Int32 × (Nat → Int32)) :=
  mo_bd (m_nu_isFull v_size n_held) fun r1 =>
  mo_br (r1 = 0) (
    mo_bd (m_nu_has v_size f_held n_held x1) fun r9 =>
    mo_br (r9 = 0) (
      mo_wI f_held n_held v_size x1 fun g26 =>
      some ((1 : Int32), v_size + 1, g26)
    ) (
      some ((0 : Int32), v_size, f_held)
    )
  ) (
    some ((0 : Int32), v_size, f_held)
  )
def m_bm_parent (v_blocks_made : Int32) (v_plan_parents_size : Int32) (f_plan_parents_held : Nat → Int32) (x1 : Int32) : Option (Int32 × Int32 × (Nat → Int32)) :=
  mo_bd (m_bl_has v_blocks_made x1) fun r5 =>
  mo_br (r5 = 0) (
    some ((0 : Int32), v_plan_parents_size, f_plan_parents_held)
  ) (
    mo_bd (m_nu_addNew v_plan_parents_size f_plan_parents_held 4 x1) fun (r19, r19_0, r19_1) =>
    mo_br (r19 = 0) (
      some ((0 : Int32), r19_0, r19_1)
    ) (
      some ((1 : Int32), r19_0, r19_1)
    )
  )
def m_bm_include (v_transactions_made : Int32) (v_plan_included_size : Int32) (f_plan_included_held : Nat → Int32) (x1 : Int32) : Option (Int32 × Int32 × (Nat → Int32)) :=
  mo_bd (m_tr_has v_transactions_made x1) fun r5 =>
  mo_br (r5 = 0) (
    some ((0 : Int32), v_plan_included_size, f_plan_included_held)
  ) (
    mo_bd (m_nu_addNew v_plan_included_size f_plan_included_held 3 x1) fun (r19, r19_0, r19_1) =>
    mo_br (r19 = 0) (
      some ((0 : Int32), r19_0, r19_1)
    ) (
      some ((1 : Int32), r19_0, r19_1)
    )
  )
def m_bl_isFull (v_made : Int32) : Option (Int32) :=
  mo_br (v_made = 60) (
    some ((1 : Int32))
  ) (
    some ((0 : Int32))
  )
def m_bl_workedHash_L5 (x0 : Int32) (x1 : Int32) (bk5 : Int32 × Int32 → Option (Int32)) : Int32 × Int32 → Option (Int32)
  | (z5_2, z5_3) =>
    mo_br (40 ≤ z5_3) (
      some z5_2
    ) (
      mo_br (z5_2 < 536870912) (
        some z5_2
      ) (
        mo_bd (m_bm_mix x0 (x1 + z5_3)) fun r21 =>
        bk5 (r21 &&& 2147483647, z5_3 + 1)
      )
    )
def m_bl_workedHash (x0 : Int32) (x1 : Int32) : Option (Int32) :=
  mo_bd (mo_lp (m_bl_workedHash_L5 x0 x1) 1000 (536870912, 0)) fun y5_2 =>
  some y5_2
def m_bl_build_L73 (v_made : Int32) (v_p1_included_size : Int32) (f_p1_included_held : Nat → Int32) (f_p2_ids : Nat → Int32) (bk73 : Int32 × Int32 × (Nat → Int32) → Option (Int32 × (Nat → Int32))) : Int32 × Int32 × (Nat → Int32) → Option (Int32 × (Nat → Int32))
  | (z73_6, z73_7, z73_f_included) =>
    mo_br (v_p1_included_size ≤ z73_7) (
      some (z73_6, z73_f_included)
    ) (
      mo_bd (m_nu_at v_p1_included_size f_p1_included_held 3 z73_7) fun r91 =>
      mo_wI z73_f_included 180 ((v_made * 3) + z73_7) r91 fun g109 =>
      mo_rI f_p2_ids 41 r91 fun v118 =>
      mo_bd (m_bm_mix z73_6 v118) fun r119 =>
      bk73 (r119, z73_7 + 1, g109)
    )
def m_bl_build_L13 (v_made : Int32) (v_p1_parents_size : Int32) (f_p1_parents_held : Nat → Int32) (f_hashes : Nat → Int32) (bk13 : Int32 × Int32 × (Nat → Int32) → Option (Int32 × (Nat → Int32))) : Int32 × Int32 × (Nat → Int32) → Option (Int32 × (Nat → Int32))
  | (z13_6, z13_7, z13_f_parents) =>
    mo_br (v_p1_parents_size ≤ z13_7) (
      some (z13_6, z13_f_parents)
    ) (
      mo_bd (m_nu_at v_p1_parents_size f_p1_parents_held 4 z13_7) fun r31 =>
      mo_wI z13_f_parents 240 ((v_made * 4) + z13_7) r31 fun g49 =>
      mo_rI f_hashes 60 r31 fun v58 =>
      mo_bd (m_bm_mix z13_6 v58) fun r59 =>
      bk13 (r59, z13_7 + 1, g49)
    )
def m_bl_build (v_made : Int32) (v_p1_parents_size : Int32) (f_p1_parents_held : Nat → Int32) (f_parents : Nat → Int32) (f_hashes : Nat → Int32) (v_p1_included_size : Int32) (f_p1_included_held : Nat → Int32) (f_included : Nat → Int32) (f_p2_ids : Nat → Int32) (f_parentCounts : Nat → Int32) (f_includedCounts : Nat → Int32) (f_locks : Nat → Int32) (x3 : Int32) (x4 : Int32) : Option (Int32 × Int32 × (Nat → Int32) × (Nat → Int32) × (Nat → Int32) × (Nat → Int32) × (Nat → Int32) × (Nat → Int32)) :=
  mo_bd (mo_lp (m_bl_build_L13 v_made v_p1_parents_size f_p1_parents_held f_hashes) 1000 (13, 0, f_parents)) fun (y13_6, y13_f_parents) =>
  mo_bd (mo_lp (m_bl_build_L73 v_made v_p1_included_size f_p1_included_held f_p2_ids) 1000 (y13_6, 0, f_included)) fun (y73_6, y73_f_included) =>
  mo_wI f_parentCounts 60 v_made v_p1_parents_size fun g143 =>
  mo_wI f_includedCounts 60 v_made v_p1_included_size fun g157 =>
  mo_wI f_locks 60 v_made x3 fun g165 =>
  mo_bd (m_bm_mix y73_6 x3) fun r175 =>
  mo_bd (m_bl_workedHash r175 x4) fun r180 =>
  mo_wI f_hashes 60 v_made r180 fun g183 =>
  some (v_made, v_made + 1, y13_f_parents, g183, y73_f_included, g143, g157, g165)
def m_bp_forget (v_parents_size : Int32) (v_included_size : Int32) : Option (Int32 × Int32) :=
  some ((0 : Int32), (0 : Int32))
def m_bm_make (v_plan_parents_size : Int32) (v_blocks_made : Int32) (f_plan_parents_held : Nat → Int32) (f_blocks_parents : Nat → Int32) (f_blocks_hashes : Nat → Int32) (v_plan_included_size : Int32) (f_plan_included_held : Nat → Int32) (f_blocks_included : Nat → Int32) (f_transactions_ids : Nat → Int32) (f_blocks_parentCounts : Nat → Int32) (f_blocks_includedCounts : Nat → Int32) (f_blocks_locks : Nat → Int32) (x1 : Int32) (x2 : Int32) : Option (Int32 × Int32 × Int32 × (Nat → Int32) × (Nat → Int32) × Int32 × (Nat → Int32) × (Nat → Int32) × (Nat → Int32) × (Nat → Int32)) :=
  mo_br (v_plan_parents_size = 0) (
    some (((-1) : Int32), v_plan_parents_size, v_blocks_made, f_blocks_parents, f_blocks_hashes, v_plan_included_size, f_blocks_included, f_blocks_parentCounts, f_blocks_includedCounts, f_blocks_locks)
  ) (
    mo_bd (m_bl_isFull v_blocks_made) fun r17 =>
    mo_br (r17 = 0) (
      mo_bd (m_bm_lockFor x1) fun r38 =>
      mo_bd (m_bl_build v_blocks_made v_plan_parents_size f_plan_parents_held f_blocks_parents f_blocks_hashes v_plan_included_size f_plan_included_held f_blocks_included f_transactions_ids f_blocks_parentCounts f_blocks_includedCounts f_blocks_locks r38 x2) fun (r42, r42_0, r42_1, r42_2, r42_3, r42_4, r42_5, r42_6) =>
      mo_bd (m_bp_forget v_plan_parents_size v_plan_included_size) fun (r50_0, r50_1) =>
      some (r42, r50_0, r42_0, r42_1, r42_2, r50_1, r42_3, r42_4, r42_5, r42_6)
    ) (
      some (((-1) : Int32), v_plan_parents_size, v_blocks_made, f_blocks_parents, f_blocks_hashes, v_plan_included_size, f_blocks_included, f_blocks_parentCounts, f_blocks_includedCounts, f_blocks_locks)
    )
  )
def m_tr_forgetDraft (v_made : Int32) (f_inputCounts : Nat → Int32) (f_outputCounts : Nat → Int32) : Option ((Nat → Int32) × (Nat → Int32)) :=
  mo_wI f_inputCounts 41 v_made 0 fun g9 =>
  mo_wI f_outputCounts 41 v_made 0 fun g19 =>
  some (g9, g19)
def m_bm_clear (v_transactions_made : Int32) (f_transactions_inputCounts : Nat → Int32) (f_transactions_outputCounts : Nat → Int32) (v_plan_parents_size : Int32) (v_plan_included_size : Int32) : Option ((Nat → Int32) × (Nat → Int32) × Int32 × Int32) :=
  mo_bd (m_tr_forgetDraft v_transactions_made f_transactions_inputCounts f_transactions_outputCounts) fun (r4_0, r4_1) =>
  mo_bd (m_bp_forget v_plan_parents_size v_plan_included_size) fun (r11_0, r11_1) =>
  some (r4_0, r4_1, r11_0, r11_1)
def m_bm_template_L86 (v_pooled_size : Int32) (f_pooled_held : Nat → Int32) (bk86 : Int32 × Int32 × (Nat → Int32) → Option (Int32 × (Nat → Int32))) : Int32 × Int32 × (Nat → Int32) → Option (Int32 × (Nat → Int32))
  | (z86_5, z86_v_templatePlan_included_size, z86_f_templatePlan_included_held) =>
    mo_br (3 ≤ z86_5) (
      some (z86_v_templatePlan_included_size, z86_f_templatePlan_included_held)
    ) (
      mo_br (v_pooled_size ≤ z86_5) (
        some (z86_v_templatePlan_included_size, z86_f_templatePlan_included_held)
      ) (
        mo_bd (m_nu_at v_pooled_size f_pooled_held 8 z86_5) fun r117 =>
        mo_bd (m_nu_addNew z86_v_templatePlan_included_size z86_f_templatePlan_included_held 3 r117) fun (r120, r120_0, r120_1) =>
        bk86 (z86_5 + 1, r120_0, r120_1)
      )
    )
def m_bm_template_L30 (v_blocks_made : Int32) (f_dag_scores : Nat → Int32) (f_blocks_hashes : Nat → Int32) (bk30 : Int64 × Int32 × Int32 × (Nat → Int32) → Option (Int32 × (Nat → Int32))) : Int64 × Int32 × Int32 × (Nat → Int32) → Option (Int32 × (Nat → Int32))
  | (z30_3, z30_5, z30_v_templatePlan_parents_size, z30_f_templatePlan_parents_held) =>
    mo_br (4 ≤ z30_5) (
      some (z30_v_templatePlan_parents_size, z30_f_templatePlan_parents_held)
    ) (
      mo_br (z30_3 = 0) (
        some (z30_v_templatePlan_parents_size, z30_f_templatePlan_parents_held)
      ) (
        mo_bd (m_dg_heaviest v_blocks_made f_dag_scores f_blocks_hashes z30_3) fun r47 =>
        mo_bd (m_nu_addNew z30_v_templatePlan_parents_size z30_f_templatePlan_parents_held 4 r47) fun (r61, r61_0, r61_1) =>
        mo_bd (m_bm_bit r47) fun r68 =>
        bk30 (z30_3 &&& (r68 ^^^ ((-1))), z30_5 + 1, r61_0, r61_1)
      )
    )
def m_bm_template (v_blocks_made : Int32) (v_templatePlan_parents_size : Int32) (v_templatePlan_included_size : Int32) (v_dag_tips : Int64) (f_dag_scores : Nat → Int32) (f_blocks_hashes : Nat → Int32) (f_templatePlan_parents_held : Nat → Int32) (v_pooled_size : Int32) (f_pooled_held : Nat → Int32) (f_templatePlan_included_held : Nat → Int32) (f_blocks_parents : Nat → Int32) (f_blocks_included : Nat → Int32) (f_transactions_ids : Nat → Int32) (f_blocks_parentCounts : Nat → Int32) (f_blocks_includedCounts : Nat → Int32) (f_blocks_locks : Nat → Int32) (x1 : Int32) (x2 : Int32) : Option (Int32 × Int32 × Int32 × Int32 × (Nat → Int32) × (Nat → Int32) × (Nat → Int32) × (Nat → Int32) × (Nat → Int32) × (Nat → Int32) × (Nat → Int32) × (Nat → Int32)) :=
  mo_bd (m_bl_isFull v_blocks_made) fun r4 =>
  mo_br (r4 = 0) (
    mo_bd (m_bp_forget v_templatePlan_parents_size v_templatePlan_included_size) fun (r16_0, r16_1) =>
    mo_bd (mo_lp (m_bm_template_L30 v_blocks_made f_dag_scores f_blocks_hashes) 1000 (v_dag_tips, 0, r16_0, f_templatePlan_parents_held)) fun (y30_v_templatePlan_parents_size, y30_f_templatePlan_parents_held) =>
    mo_bd (mo_lp (m_bm_template_L86 v_pooled_size f_pooled_held) 1000 (0, r16_1, f_templatePlan_included_held)) fun (y86_v_templatePlan_included_size, y86_f_templatePlan_included_held) =>
    mo_bd (m_bm_lockFor x1) fun r143 =>
    mo_bd (m_bl_build v_blocks_made y30_v_templatePlan_parents_size y30_f_templatePlan_parents_held f_blocks_parents f_blocks_hashes y86_v_templatePlan_included_size y86_f_templatePlan_included_held f_blocks_included f_transactions_ids f_blocks_parentCounts f_blocks_includedCounts f_blocks_locks r143 x2) fun (r147, r147_0, r147_1, r147_2, r147_3, r147_4, r147_5, r147_6) =>
    some (r147, r147_0, y30_v_templatePlan_parents_size, y86_v_templatePlan_included_size, r147_2, y30_f_templatePlan_parents_held, y86_f_templatePlan_included_held, r147_1, r147_3, r147_4, r147_5, r147_6)
  ) (
    some (((-1) : Int32), v_blocks_made, v_templatePlan_parents_size, v_templatePlan_included_size, f_blocks_hashes, f_templatePlan_parents_held, f_templatePlan_included_held, f_blocks_parents, f_blocks_included, f_blocks_parentCounts, f_blocks_includedCounts, f_blocks_locks)
  )
def m_bl_isWorked (f_hashes : Nat → Int32) (x1 : Int32) : Option (Int32) :=
  mo_jn (
    some ((1 : Int32))
  ) fun j15 =>
  mo_br (x1 = 0) (
    j15
  ) (
    mo_rI f_hashes 60 x1 fun v9 =>
    mo_br (536870912 ≤ v9) (
      some ((0 : Int32))
    ) (
      j15
    )
  )
def m_dg_has (v_members : Int64) (x1 : Int32) : Option (Int32) :=
  mo_bd (m_bm_holds v_members x1) fun r5 =>
  mo_bz r5 (some r5)
def m_dg_hasParentsOf (v_members : Int64) (f_blocks_parentCounts : Nat → Int32) (f_blocks_parents : Nat → Int32) (x1 : Int32) : Option (Int32) :=
  mo_bd (m_bl_parentSet f_blocks_parentCounts f_blocks_parents x1) fun r5 =>
  mo_br ((r5 &&& (v_members ^^^ ((-1)))) = 0) (
    some ((1 : Int32))
  ) (
    some ((0 : Int32))
  )
def m_bm_keepOrphan (v_orphans_size : Int32) (f_orphans_held : Nat → Int32) (x1 : Int32) : Option (Int32 × (Nat → Int32)) :=
  mo_bd (m_nu_isFull v_orphans_size 4) fun r4 =>
  mo_jn (fun (y18_v_orphans_size : Int32) (y18_f_orphans_held : Nat → Int32) =>
    mo_bd (m_nu_addNew y18_v_orphans_size y18_f_orphans_held 4 x1) fun (r23, r23_0, r23_1) =>
    some (r23_0, r23_1)
  ) fun j18 =>
  mo_br (r4 = 0) (
    j18 v_orphans_size f_orphans_held
  ) (
    mo_bd (m_nu_removeAt v_orphans_size f_orphans_held 4 0) fun (r15_0, r15_1) =>
    j18 r15_0 r15_1
  )
def m_dg_parentsOverlap (v_blocks_made : Int32) (f_blocks_parentCounts : Nat → Int32) (f_blocks_parents : Nat → Int32) (f_past : Nat → Int64) (x1 : Int32) : Option (Int32) :=
  mo_bd (m_bl_parentSet f_blocks_parentCounts f_blocks_parents x1) fun r5 =>
  mo_bd (m_dg_pastOf v_blocks_made f_past r5) fun r12 =>
  mo_br ((r5 &&& r12) = 0) (
    some ((0 : Int32))
  ) (
    some ((1 : Int32))
  )
def m_bm_readyOrphan_L4 (v_orphans_size : Int32) (f_orphans_held : Nat → Int32) (v_dag_members : Int64) (f_blocks_parentCounts : Nat → Int32) (f_blocks_parents : Nat → Int32) (bk4 : Int32 × Int32 → Option (Int32)) : Int32 × Int32 → Option (Int32)
  | (z4_1, z4_2) =>
    mo_br (v_orphans_size ≤ z4_2) (
      some z4_1
    ) (
      mo_bd (m_nu_at v_orphans_size f_orphans_held 4 z4_2) fun r20 =>
      mo_bd (m_dg_hasParentsOf v_dag_members f_blocks_parentCounts f_blocks_parents r20) fun r29 =>
      mo_jn (fun (y54_1 : Int32) =>
        bk4 (y54_1, z4_2 + 1)
      ) fun j54 =>
      mo_br (r29 = 0) (
        j54 z4_1
      ) (
        mo_jn (
          j54 z4_2
        ) fun j52 =>
        mo_br (z4_1 = ((-1))) (
          j52
        ) (
          mo_bd (m_nu_at v_orphans_size f_orphans_held 4 z4_1) fun r46 =>
          mo_br (r46 ≤ r20) (
            j54 z4_1
          ) (
            j52
          )
        )
      )
    )
def m_bm_readyOrphan (v_orphans_size : Int32) (f_orphans_held : Nat → Int32) (v_dag_members : Int64) (f_blocks_parentCounts : Nat → Int32) (f_blocks_parents : Nat → Int32) : Option (Int32) :=
  mo_bd (mo_lp (m_bm_readyOrphan_L4 v_orphans_size f_orphans_held v_dag_members f_blocks_parentCounts f_blocks_parents) 1000 ((-1), 0)) fun y4_1 =>
  some y4_1
def m_bm_attachOrphans_L2 (v_dag_k : Int32) (v_blocks_made : Int32) (f_blocks_parentCounts : Nat → Int32) (f_blocks_parents : Nat → Int32) (f_blocks_hashes : Nat → Int32) (bk2 : Int32 × Int32 × (Nat → Int32) × Int64 × Int64 × (Nat → Int64) × (Nat → Int32) × (Nat → Int32) × (Nat → Int64) × (Nat → Int32) × (Nat → Int64) → Option (Int32 × (Nat → Int32) × Int64 × Int64 × (Nat → Int64) × (Nat → Int32) × (Nat → Int32) × (Nat → Int64) × (Nat → Int32) × (Nat → Int64))) : Int32 × Int32 × (Nat → Int32) × Int64 × Int64 × (Nat → Int64) × (Nat → Int32) × (Nat → Int32) × (Nat → Int64) × (Nat → Int32) × (Nat → Int64) → Option (Int32 × (Nat → Int32) × Int64 × Int64 × (Nat → Int64) × (Nat → Int32) × (Nat → Int32) × (Nat → Int64) × (Nat → Int32) × (Nat → Int64))
  | (z2_1, z2_v_orphans_size, z2_f_orphans_held, z2_v_dag_members, z2_v_dag_tips, z2_f_dag_past, z2_f_dag_scores, z2_f_dag_selected, z2_f_dag_blues, z2_f_dag_sorted, z2_f_dag_future) =>
    mo_br (4 ≤ z2_1) (
      some (z2_v_orphans_size, z2_f_orphans_held, z2_v_dag_members, z2_v_dag_tips, z2_f_dag_past, z2_f_dag_scores, z2_f_dag_selected, z2_f_dag_blues, z2_f_dag_sorted, z2_f_dag_future)
    ) (
      mo_bd (m_bm_readyOrphan z2_v_orphans_size z2_f_orphans_held z2_v_dag_members f_blocks_parentCounts f_blocks_parents) fun r8 =>
      mo_br (r8 = ((-1))) (
        some (z2_v_orphans_size, z2_f_orphans_held, z2_v_dag_members, z2_v_dag_tips, z2_f_dag_past, z2_f_dag_scores, z2_f_dag_selected, z2_f_dag_blues, z2_f_dag_sorted, z2_f_dag_future)
      ) (
        mo_bd (m_nu_at z2_v_orphans_size z2_f_orphans_held 4 r8) fun r23 =>
        mo_bd (m_nu_removeAt z2_v_orphans_size z2_f_orphans_held 4 r8) fun (r32_0, r32_1) =>
        mo_bd (m_dg_parentsOverlap v_blocks_made f_blocks_parentCounts f_blocks_parents z2_f_dag_past r23) fun r40 =>
        mo_jn (fun (y54_v_dag_members : Int64) (y54_v_dag_tips : Int64) (y54_f_dag_past : Nat → Int64) (y54_f_dag_scores : Nat → Int32) (y54_f_dag_selected : Nat → Int32) (y54_f_dag_blues : Nat → Int64) (y54_f_dag_sorted : Nat → Int32) (y54_f_dag_future : Nat → Int64) =>
          bk2 (z2_1 + 1, r32_0, r32_1, y54_v_dag_members, y54_v_dag_tips, y54_f_dag_past, y54_f_dag_scores, y54_f_dag_selected, y54_f_dag_blues, y54_f_dag_sorted, y54_f_dag_future)
        ) fun j54 =>
        mo_br (r40 = 0) (
          mo_bd (m_dg_attach v_dag_k z2_v_dag_members z2_v_dag_tips v_blocks_made f_blocks_parentCounts f_blocks_parents z2_f_dag_scores f_blocks_hashes z2_f_dag_selected z2_f_dag_past z2_f_dag_blues z2_f_dag_sorted z2_f_dag_future r23) fun (r51_0, r51_1, r51_2, r51_3, r51_4, r51_5, r51_6, r51_7) =>
          j54 r51_0 r51_1 r51_4 r51_2 r51_3 r51_5 r51_6 r51_7
        ) (
          j54 z2_v_dag_members z2_v_dag_tips z2_f_dag_past z2_f_dag_scores z2_f_dag_selected z2_f_dag_blues z2_f_dag_sorted z2_f_dag_future
        )
      )
    )
def m_bm_attachOrphans (v_orphans_size : Int32) (f_orphans_held : Nat → Int32) (v_dag_k : Int32) (v_dag_members : Int64) (v_dag_tips : Int64) (v_blocks_made : Int32) (f_blocks_parentCounts : Nat → Int32) (f_blocks_parents : Nat → Int32) (f_dag_past : Nat → Int64) (f_dag_scores : Nat → Int32) (f_blocks_hashes : Nat → Int32) (f_dag_selected : Nat → Int32) (f_dag_blues : Nat → Int64) (f_dag_sorted : Nat → Int32) (f_dag_future : Nat → Int64) : Option (Int32 × (Nat → Int32) × Int64 × Int64 × (Nat → Int64) × (Nat → Int32) × (Nat → Int32) × (Nat → Int64) × (Nat → Int32) × (Nat → Int64)) :=
  mo_lp (m_bm_attachOrphans_L2 v_dag_k v_blocks_made f_blocks_parentCounts f_blocks_parents f_blocks_hashes) 1000 (0, v_orphans_size, f_orphans_held, v_dag_members, v_dag_tips, f_dag_past, f_dag_scores, f_dag_selected, f_dag_blues, f_dag_sorted, f_dag_future)
def m_bm_receive (v_blocks_made : Int32) (f_blocks_hashes : Nat → Int32) (v_dag_k : Int32) (v_dag_members : Int64) (v_dag_tips : Int64) (v_orphans_size : Int32) (f_orphans_held : Nat → Int32) (f_blocks_parentCounts : Nat → Int32) (f_blocks_parents : Nat → Int32) (f_dag_past : Nat → Int64) (f_dag_scores : Nat → Int32) (f_dag_selected : Nat → Int32) (f_dag_blues : Nat → Int64) (f_dag_sorted : Nat → Int32) (f_dag_future : Nat → Int64) (f_dag_sequence : Nat → Int32) (v_ledger_accepted : Int64) (f_ledger_amounts : Nat → Int32) (f_blocks_includedCounts : Nat → Int32) (f_blocks_included : Nat → Int32) (f_transactions_inputCounts : Nat → Int32) (f_transactions_inputSlots : Nat → Int32) (f_transactions_outputLocks : Nat → Int32) (f_blocks_locks : Nat → Int32) (f_transactions_inputLocks : Nat → Int32) (f_transactions_outputCounts : Nat → Int32) (f_transactions_outputAmounts : Nat → Int32) (v_ahead_accepted : Int64) (f_ahead_amounts : Nat → Int32) (v_pooled_size : Int32) (f_pooled_held : Nat → Int32) (x1 : Int32) : Option (Int32 × Int64 × Int64 × Int32 × (Nat → Int32) × (Nat → Int64) × (Nat → Int32) × (Nat → Int32) × (Nat → Int64) × (Nat → Int32) × (Nat → Int64) × (Nat → Int32) × Int64 × (Nat → Int32) × Int64 × (Nat → Int32) × Int32 × (Nat → Int32)) :=
  mo_bd (m_bl_has v_blocks_made x1) fun r5 =>
  mo_br (r5 = 0) (
    some (((-1) : Int32), v_dag_members, v_dag_tips, v_orphans_size, f_orphans_held, f_dag_past, f_dag_scores, f_dag_selected, f_dag_blues, f_dag_sorted, f_dag_future, f_dag_sequence, v_ledger_accepted, f_ledger_amounts, v_ahead_accepted, f_ahead_amounts, v_pooled_size, f_pooled_held)
  ) (
    mo_bd (m_bl_isWorked f_blocks_hashes x1) fun r18 =>
    mo_br (r18 = 0) (
      some (((-2) : Int32), v_dag_members, v_dag_tips, v_orphans_size, f_orphans_held, f_dag_past, f_dag_scores, f_dag_selected, f_dag_blues, f_dag_sorted, f_dag_future, f_dag_sequence, v_ledger_accepted, f_ledger_amounts, v_ahead_accepted, f_ahead_amounts, v_pooled_size, f_pooled_held)
    ) (
      mo_bd (m_dg_has v_dag_members x1) fun r32 =>
      mo_br (r32 = 0) (
        mo_bd (m_nu_has v_orphans_size f_orphans_held 4 x1) fun r43 =>
        mo_br (r43 = 0) (
          mo_bd (m_dg_hasParentsOf v_dag_members f_blocks_parentCounts f_blocks_parents x1) fun r57 =>
          mo_br (r57 = 0) (
            mo_bd (m_bm_keepOrphan v_orphans_size f_orphans_held x1) fun (r65_0, r65_1) =>
            some ((1 : Int32), v_dag_members, v_dag_tips, r65_0, r65_1, f_dag_past, f_dag_scores, f_dag_selected, f_dag_blues, f_dag_sorted, f_dag_future, f_dag_sequence, v_ledger_accepted, f_ledger_amounts, v_ahead_accepted, f_ahead_amounts, v_pooled_size, f_pooled_held)
          ) (
            mo_bd (m_dg_parentsOverlap v_blocks_made f_blocks_parentCounts f_blocks_parents f_dag_past x1) fun r75 =>
            mo_br (r75 = 0) (
              mo_bd (m_dg_attach v_dag_k v_dag_members v_dag_tips v_blocks_made f_blocks_parentCounts f_blocks_parents f_dag_scores f_blocks_hashes f_dag_selected f_dag_past f_dag_blues f_dag_sorted f_dag_future x1) fun (r89_0, r89_1, r89_2, r89_3, r89_4, r89_5, r89_6, r89_7) =>
              mo_bd (m_bm_attachOrphans v_orphans_size f_orphans_held v_dag_k r89_0 r89_1 v_blocks_made f_blocks_parentCounts f_blocks_parents r89_4 r89_2 f_blocks_hashes r89_3 r89_5 r89_6 r89_7) fun (r93_0, r93_1, r93_2, r93_3, r93_4, r93_5, r93_6, r93_7, r93_8, r93_9) =>
              mo_bd (m_bm_followDag v_dag_k r93_2 r93_3 v_blocks_made r93_5 f_blocks_hashes r93_6 r93_4 r93_7 r93_8 r93_9 f_dag_sequence v_ledger_accepted f_ledger_amounts f_blocks_includedCounts f_blocks_included f_transactions_inputCounts f_transactions_inputSlots f_transactions_outputLocks f_blocks_locks f_transactions_inputLocks f_transactions_outputCounts f_transactions_outputAmounts v_ahead_accepted f_ahead_amounts v_pooled_size f_pooled_held) fun (r97_0, r97_1, r97_2, r97_3, r97_4, r97_5, r97_6, r97_7, r97_8, r97_9, r97_10, r97_11) =>
              some ((0 : Int32), r93_2, r93_3, r93_0, r93_1, r97_2, r97_0, r97_1, r97_3, r97_4, r93_9, r97_5, r97_6, r97_7, r97_8, r97_9, r97_10, r97_11)
            ) (
              some (((-4) : Int32), v_dag_members, v_dag_tips, v_orphans_size, f_orphans_held, f_dag_past, f_dag_scores, f_dag_selected, f_dag_blues, f_dag_sorted, f_dag_future, f_dag_sequence, v_ledger_accepted, f_ledger_amounts, v_ahead_accepted, f_ahead_amounts, v_pooled_size, f_pooled_held)
            )
          )
        ) (
          some (((-3) : Int32), v_dag_members, v_dag_tips, v_orphans_size, f_orphans_held, f_dag_past, f_dag_scores, f_dag_selected, f_dag_blues, f_dag_sorted, f_dag_future, f_dag_sequence, v_ledger_accepted, f_ledger_amounts, v_ahead_accepted, f_ahead_amounts, v_pooled_size, f_pooled_held)
        )
      ) (
        some (((-3) : Int32), v_dag_members, v_dag_tips, v_orphans_size, f_orphans_held, f_dag_past, f_dag_scores, f_dag_selected, f_dag_blues, f_dag_sorted, f_dag_future, f_dag_sequence, v_ledger_accepted, f_ledger_amounts, v_ahead_accepted, f_ahead_amounts, v_pooled_size, f_pooled_held)
      )
    )
  )
def m_bm_submit (v_transactions_made : Int32) (v_ahead_accepted : Int64) (f_transactions_inputCounts : Nat → Int32) (f_transactions_inputSlots : Nat → Int32) (f_ahead_amounts : Nat → Int32) (f_transactions_outputLocks : Nat → Int32) (f_blocks_locks : Nat → Int32) (f_transactions_inputLocks : Nat → Int32) (f_transactions_outputCounts : Nat → Int32) (f_transactions_outputAmounts : Nat → Int32) (v_pooled_size : Int32) (f_pooled_held : Nat → Int32) (x1 : Int32) : Option (Int32 × Int64 × (Nat → Int32) × Int32 × (Nat → Int32)) :=
  mo_bd (m_tr_has v_transactions_made x1) fun r5 =>
  mo_br (r5 = 0) (
    some (((-1) : Int32), v_ahead_accepted, f_ahead_amounts, v_pooled_size, f_pooled_held)
  ) (
    mo_bd (m_le_hasAccepted v_ahead_accepted x1) fun r18 =>
    mo_br (r18 = 0) (
      mo_bd (m_le_feeOf v_ahead_accepted f_transactions_inputCounts f_transactions_inputSlots f_ahead_amounts f_transactions_outputLocks f_blocks_locks f_transactions_inputLocks f_transactions_outputCounts f_transactions_outputAmounts x1) fun r32 =>
      mo_br (r32 = ((-1))) (
        some (((-3) : Int32), v_ahead_accepted, f_ahead_amounts, v_pooled_size, f_pooled_held)
      ) (
        mo_bd (m_nu_addNew v_pooled_size f_pooled_held 8 x1) fun (r47, r47_0, r47_1) =>
        mo_br (r47 = 0) (
          some (((-4) : Int32), v_ahead_accepted, f_ahead_amounts, r47_0, r47_1)
        ) (
          mo_bd (m_le_accept v_ahead_accepted f_transactions_inputCounts f_transactions_inputSlots f_ahead_amounts f_transactions_outputLocks f_blocks_locks f_transactions_inputLocks f_transactions_outputCounts f_transactions_outputAmounts x1) fun (r61, r61_0, r61_1) =>
          some ((0 : Int32), r61_0, r61_1, r47_0, r47_1)
        )
      )
    ) (
      some (((-2) : Int32), v_ahead_accepted, f_ahead_amounts, v_pooled_size, f_pooled_held)
    )
  )
def m_bm_standingOf (v_orphans_size : Int32) (f_orphans_held : Nat → Int32) (v_dag_members : Int64) (f_dag_blues : Nat → Int64) (x1 : Int32) : Option (Int32) :=
  mo_bd (m_nu_has v_orphans_size f_orphans_held 4 x1) fun r5 =>
  mo_br (r5 = 0) (
    mo_bd (m_dg_has v_dag_members x1) fun r18 =>
    mo_br (r18 = 0) (
      some ((0 : Int32))
    ) (
      mo_bd (m_dg_isBlue f_dag_blues x1) fun r31 =>
      mo_br (r31 = 0) (
        some ((1 : Int32))
      ) (
        some ((2 : Int32))
      )
    )
  ) (
    some ((3 : Int32))
  )
def m_dg_placeOf_L2 (v_members : Int64) (f_sequence : Nat → Int32) (x1 : Int32) (bk2 : Int32 → Option (Int32)) : Int32 → Option (Int32)
  | z2_2 =>
    mo_bd (m_dg_size v_members) fun r4 =>
    mo_br (r4 ≤ z2_2) (
      some (((-1) : Int32))
    ) (
      mo_rI f_sequence 60 z2_2 fun v15 =>
      mo_br (v15 = x1) (
        some z2_2
      ) (
        bk2 (z2_2 + 1)
      )
    )
def m_dg_placeOf (v_members : Int64) (f_sequence : Nat → Int32) (x1 : Int32) : Option (Int32) :=
  mo_lp (m_dg_placeOf_L2 v_members f_sequence x1) 1000 0
def m_bm_block (v_blocks_made : Int32) (v_orphans_size : Int32) (f_orphans_held : Nat → Int32) (v_dag_members : Int64) (f_dag_blues : Nat → Int64) (f_blocks_hashes : Nat → Int32) (f_dag_scores : Nat → Int32) (f_dag_selected : Nat → Int32) (f_dag_sequence : Nat → Int32) (f_dag_past : Nat → Int64) (x1 : Int32) (x2 : Int32) : Option (Int32) :=
  mo_bd (m_bl_has v_blocks_made x1) fun r5 =>
  mo_br (r5 = 0) (
    some (((-1) : Int32))
  ) (
    mo_br (x2 = 0) (
      mo_bd (m_bm_standingOf v_orphans_size f_orphans_held v_dag_members f_dag_blues x1) fun r19 =>
      some r19
    ) (
      mo_br (x2 = 5) (
        mo_rI f_blocks_hashes 60 x1 fun v36 =>
        some v36
      ) (
        mo_bd (m_dg_has v_dag_members x1) fun r43 =>
        mo_br (r43 = 0) (
          some (((-1) : Int32))
        ) (
          mo_br (x2 = 1) (
            mo_rI f_dag_scores 61 x1 fun v92 =>
            some v92
          ) (
            mo_br (x2 = 2) (
              mo_rI f_dag_selected 61 x1 fun v102 =>
              some v102
            ) (
              mo_br (x2 = 3) (
                mo_bd (m_dg_placeOf v_dag_members f_dag_sequence x1) fun r109 =>
                some r109
              ) (
                mo_br (x2 = 4) (
                  mo_bd (m_dg_mergedBy f_dag_selected f_dag_past x1) fun r118 =>
                  mo_bd (m_jl_bitCount r118) fun r121 =>
                  some r121
                ) (
                  some (((-1) : Int32))
                )
              )
            )
          )
        )
      )
    )
  )
def m_bm_order (v_dag_members : Int64) (f_dag_sequence : Nat → Int32) (x1 : Int32) : Option (Int32) :=
  mo_br (x1 < 0) (
    some (((-1) : Int32))
  ) (
    mo_bd (m_dg_size v_dag_members) fun r9 =>
    mo_br (r9 ≤ x1) (
      some (((-1) : Int32))
    ) (
      mo_rI f_dag_sequence 60 x1 fun v23 =>
      some v23
    )
  )
def m_bm_unspent (f_ledger_amounts : Nat → Int32) (x1 : Int32) (x2 : Int32) : Option (Int32) :=
  mo_bd (m_bm_slotOf x1 x2) fun r2 =>
  mo_br (r2 = ((-1))) (
    some (((-1) : Int32))
  ) (
    mo_rI f_ledger_amounts 140 r2 fun v23 =>
    some v23
  )
def m_bm_pool (v_pooled_size : Int32) (f_pooled_held : Nat → Int32) (x1 : Int32) : Option (Int32) :=
  mo_bd (m_nu_at v_pooled_size f_pooled_held 8 x1) fun r5 =>
  some r5
def m_bm_missingParents_L13 (v_orphans_size : Int32) (f_orphans_held : Nat → Int32) (f_blocks_parentCounts : Nat → Int32) (f_blocks_parents : Nat → Int32) (bk13 : Int64 × Int64 × Int32 → Option (Int64 × Int64)) : Int64 × Int64 × Int32 → Option (Int64 × Int64)
  | (z13_1, z13_3, z13_5) =>
    mo_br (v_orphans_size ≤ z13_5) (
      some (z13_1, z13_3)
    ) (
      mo_bd (m_nu_at v_orphans_size f_orphans_held 4 z13_5) fun r36 =>
      mo_bd (m_bl_parentSet f_blocks_parentCounts f_blocks_parents r36) fun r39 =>
      mo_bd (m_nu_at v_orphans_size f_orphans_held 4 z13_5) fun r51 =>
      mo_bd (m_bm_bit r51) fun r54 =>
      bk13 (z13_1 ||| r39, z13_3 ||| r54, z13_5 + 1)
    )
def m_bm_missingParents (v_dag_members : Int64) (v_orphans_size : Int32) (f_orphans_held : Nat → Int32) (f_blocks_parentCounts : Nat → Int32) (f_blocks_parents : Nat → Int32) : Option (Int64) :=
  mo_bd (mo_lp (m_bm_missingParents_L13 v_orphans_size f_orphans_held f_blocks_parentCounts f_blocks_parents) 1000 (0, v_dag_members, 0)) fun (y13_1, y13_3) =>
  some (y13_1 &&& (y13_3 ^^^ ((-1))))
def m_bm_wanted_L11 (x1 : Int32) (r1 : Int64) (bk11 : Int32 × Int32 → Option (Int32)) : Int32 × Int32 → Option (Int32)
  | (z11_4, z11_5) =>
    mo_br (60 ≤ z11_5) (
      some (((-1) : Int32))
    ) (
      mo_bd (m_bm_holds r1 z11_5) fun r21 =>
      mo_jn (fun (y42_4 : Int32) =>
        bk11 (y42_4, z11_5 + 1)
      ) fun j42 =>
      mo_br (r21 = 0) (
        j42 z11_4
      ) (
        mo_br (z11_4 = x1) (
          some z11_5
        ) (
          j42 (z11_4 + 1)
        )
      )
    )
def m_bm_wanted (v_dag_members : Int64) (v_orphans_size : Int32) (f_orphans_held : Nat → Int32) (f_blocks_parentCounts : Nat → Int32) (f_blocks_parents : Nat → Int32) (x1 : Int32) : Option (Int32) :=
  mo_bd (m_bm_missingParents v_dag_members v_orphans_size f_orphans_held f_blocks_parentCounts f_blocks_parents) fun r1 =>
  mo_lp (m_bm_wanted_L11 x1 r1) 1000 (0, 0)
def m_bm_parentOf (v_blocks_made : Int32) (f_blocks_parentCounts : Nat → Int32) (f_blocks_parents : Nat → Int32) (x1 : Int32) (x2 : Int32) : Option (Int32) :=
  mo_bd (m_bl_has v_blocks_made x1) fun r5 =>
  mo_br (r5 = 0) (
    some (((-1) : Int32))
  ) (
    mo_br (x2 < 0) (
      some (((-1) : Int32))
    ) (
      mo_rI f_blocks_parentCounts 60 x1 fun v24 =>
      mo_br (x2 < v24) (
        mo_bd (m_bl_parentAt f_blocks_parents x1 x2) fun r36 =>
        some r36
      ) (
        some (((-1) : Int32))
      )
    )
  )
def m_tr_lastId (v_made : Int32) (f_ids : Nat → Int32) : Option (Int32) :=
  mo_br (v_made = 0) (
    some ((0 : Int32))
  ) (
    mo_rI f_ids 41 (v_made - 1) fun v21 =>
    some v21
  )
def m_bm_count (v_transactions_made : Int32) (v_blocks_made : Int32) (v_dag_members : Int64) (v_dag_tips : Int64) (v_orphans_size : Int32) (v_pooled_size : Int32) (v_ledger_accepted : Int64) (f_dag_scores : Nat → Int32) (f_dag_selected : Nat → Int32) (f_transactions_ids : Nat → Int32) (x1 : Int32) : Option (Int32) :=
  mo_br (x1 = 0) (
    some v_transactions_made
  ) (
    mo_br (x1 = 1) (
      some v_blocks_made
    ) (
      mo_br (x1 = 2) (
        mo_bd (m_dg_size v_dag_members) fun r76 =>
        some r76
      ) (
        mo_br (x1 = 3) (
          mo_bd (m_jl_bitCount v_dag_tips) fun r87 =>
          some r87
        ) (
          mo_br (x1 = 4) (
            some v_orphans_size
          ) (
            mo_br (x1 = 5) (
              some v_pooled_size
            ) (
              mo_br (x1 = 6) (
                mo_bd (m_jl_bitCount v_ledger_accepted) fun r114 =>
                some r114
              ) (
                mo_br (x1 = 7) (
                  mo_rI f_dag_scores 61 60 fun v127 =>
                  some v127
                ) (
                  mo_br (x1 = 8) (
                    mo_rI f_dag_selected 61 60 fun v138 =>
                    some v138
                  ) (
                    mo_br (x1 = 9) (
                      mo_bd (m_tr_lastId v_transactions_made f_transactions_ids) fun r144 =>
                      some r144
                    ) (
                      some (((-1) : Int32))
                    )
                  )
                )
              )
            )
          )
        )
      )
    )
  )
def m_le_sum_L4 (f_amounts : Nat → Int32) (bk4 : Int32 × Int32 → Option (Int32)) : Int32 × Int32 → Option (Int32)
  | (z4_1, z4_2) =>
    mo_br (140 ≤ z4_2) (
      some z4_1
    ) (
      mo_rI f_amounts 140 z4_2 fun v17 =>
      bk4 (z4_1 + (mo_max v17 0), z4_2 + 1)
    )
def m_le_sum (f_amounts : Nat → Int32) : Option (Int32) :=
  mo_bd (mo_lp (m_le_sum_L4 f_amounts) 1000 (0, 0)) fun y4_1 =>
  some y4_1
def m_bm_total (f_ledger_amounts : Nat → Int32) : Option (Int32) :=
  mo_bd (m_le_sum f_ledger_amounts) fun r4 =>
  some r4
def m_mm_mix (x0 : Int32) (x1 : Int32) : Option (Int32) :=
  some (((x0 * 668265263) + x1) ^^^ ((((x0 * 668265263) + x1).toUInt32 >>> ((13 : Int32).toUInt32 &&& Int32.toUInt32 31)).toInt32))
def m_mm_in (x0 : Int64) (x2 : Int32) : Option (Int32) :=
  mo_br (((x0 >>> (x2.toInt64 &&& 63)) &&& 1) = 1) (
    some ((1 : Int32))
  ) (
    some ((0 : Int32))
  )
def m_mm_tips_L18 (v_dag : Int64) (f_parents : Nat → Int32) (f_parent : Nat → Int32) (z7_3 : Int32) (bk18 : Int64 × Int32 → Option (Int64)) : Int64 × Int32 → Option (Int64)
  | (z18_1, z18_4) =>
    mo_rI f_parents 62 z7_3 fun v25 =>
    mo_br (v25 ≤ z18_4) (
      some z18_1
    ) (
      mo_bd (m_mm_in v_dag z7_3) fun r34 =>
      mo_br (r34 = 0) (
        some z18_1
      ) (
        mo_rI f_parent 248 (((4 : Int32) * z7_3) + z18_4) fun v52 =>
        bk18 (z18_1 &&& (((1 : Int64) <<< (v52.toInt64 &&& 63)) ^^^ ((-1))), z18_4 + 1)
      )
    )
def m_mm_tips_L7 (v_blocks : Int32) (v_dag : Int64) (f_parents : Nat → Int32) (f_parent : Nat → Int32) (bk7 : Int64 × Int32 → Option (Int64)) : Int64 × Int32 → Option (Int64)
  | (z7_1, z7_3) =>
    mo_br (v_blocks ≤ z7_3) (
      some z7_1
    ) (
      mo_bd (mo_lp (m_mm_tips_L18 v_dag f_parents f_parent z7_3) 1000 (z7_1, 0)) fun y18_1 =>
      bk7 (y18_1, z7_3 + 1)
    )
def m_mm_tips (v_blocks : Int32) (v_dag : Int64) (f_parents : Nat → Int32) (f_parent : Nat → Int32) : Option (Int64) :=
  mo_bd (mo_lp (m_mm_tips_L7 v_blocks v_dag f_parents f_parent) 1000 (v_dag, 0)) fun y7_1 =>
  some y7_1
def m_mm_earlier (f_hash : Nat → Int32) (x1 : Int32) (x2 : Int32) : Option (Int32) :=
  mo_rI f_hash 62 x1 fun v5 =>
  mo_rI f_hash 62 x2 fun v11 =>
  mo_jn (
    some ((1 : Int32))
  ) fun j35 =>
  mo_br (v5 < v11) (
    j35
  ) (
    mo_rI f_hash 62 x1 fun v20 =>
    mo_rI f_hash 62 x2 fun v26 =>
    mo_br (v20 = v26) (
      mo_br (x2 ≤ x1) (
        some ((0 : Int32))
      ) (
        j35
      )
    ) (
      some ((0 : Int32))
    )
  )
def m_mm_merge_L51 (f_score : Nat → Int32) (f_hash : Nat → Int32) (z39_2 : Int64) (bk51 : Int32 × Int32 → Option (Int32)) : Int32 × Int32 → Option (Int32)
  | (z51_5, z51_6) =>
    mo_br (60 ≤ z51_6) (
      some z51_5
    ) (
      mo_bd (m_mm_in z39_2 z51_6) fun r61 =>
      mo_jn (fun (s122_0 : Int32) =>
        mo_jn (fun (s136_0 : Int32) =>
          bk51 (s136_0, z51_6 + 1)
        ) fun j136 =>
        mo_br (s122_0 = 0) (
          j136 z51_5
        ) (
          j136 z51_6
        )
      ) fun j122 =>
      mo_jn (
        j122 0
      ) fun j121 =>
      mo_br (r61 = 0) (
        j121
      ) (
        mo_jn (
          j122 1
        ) fun j117 =>
        mo_br (z51_5 < 0) (
          j117
        ) (
          mo_rI f_score 61 z51_6 fun v78 =>
          mo_rI f_score 61 z51_5 fun v85 =>
          mo_br (v78 < v85) (
            j117
          ) (
            mo_rI f_score 61 z51_6 fun v95 =>
            mo_rI f_score 61 z51_5 fun v102 =>
            mo_br (v95 = v102) (
              mo_bd (m_mm_earlier f_hash z51_6 z51_5) fun r111 =>
              mo_br (r111 = 0) (
                j121
              ) (
                j117
              )
            ) (
              j121
            )
          )
        )
      )
    )
def m_mm_merge_L39 (f_score : Nat → Int32) (f_hash : Nat → Int32) (bk39 : Int64 × Int32 × (Nat → Int32) → Option (Int32 × (Nat → Int32))) : Int64 × Int32 × (Nat → Int32) → Option (Int32 × (Nat → Int32))
  | (z39_2, z39_4, z39_f_merged) =>
    mo_br (z39_2 = 0) (
      some (z39_4, z39_f_merged)
    ) (
      mo_bd (mo_lp (m_mm_merge_L51 f_score f_hash z39_2) 1000 ((-1), 0)) fun y51_5 =>
      mo_wI z39_f_merged 64 z39_4 y51_5 fun g152 =>
      bk39 (z39_2 &&& (((1 : Int64) <<< (y51_5.toInt64 &&& 63)) ^^^ ((-1))), z39_4 + 1, g152)
    )
def m_mm_merge (f_past : Nat → Int64) (f_selected : Nat → Int32) (f_score : Nat → Int32) (f_hash : Nat → Int32) (f_merged : Nat → Int32) (x1 : Int32) : Option (Int32 × (Nat → Int32)) :=
  mo_rL f_past 61 x1 fun v5 =>
  mo_rI f_selected 61 x1 fun v15 =>
  mo_rL f_past 61 v15 fun v16 =>
  mo_rI f_selected 61 x1 fun v28 =>
  mo_bd (mo_lp (m_mm_merge_L39 f_score f_hash) 1000 ((v5 &&& (v16 ^^^ ((-1)))) &&& (((1 : Int64) <<< (v28.toInt64 &&& 63)) ^^^ ((-1))), 0, f_merged)) fun (y39_4, y39_f_merged) =>
  some (y39_4, y39_f_merged)
def m_mm_goes_L14 (f_past : Nat → Int64) (x1 : Int64) (z2_3 : Int32) (bk14 : Int32 × Int32 → Option (Int32)) : Int32 × Int32 → Option (Int32)
  | (z14_4, z14_5) =>
    mo_br (60 ≤ z14_5) (
      some z14_4
    ) (
      mo_bd (m_mm_in x1 z2_3) fun r23 =>
      mo_br (r23 = 0) (
        some z14_4
      ) (
        mo_jn (fun (s77_0 : Int32) =>
          mo_jn (fun (s93_0 : Int32) =>
            bk14 (s93_0, z14_5 + 1)
          ) fun j93 =>
          mo_br (s77_0 = 0) (
            j93 z14_4
          ) (
            j93 (z14_4 + 1)
          )
        ) fun j77 =>
        mo_jn (
          j77 0
        ) fun j76 =>
        mo_br (z2_3 = z14_5) (
          j76
        ) (
          mo_bd (m_mm_in x1 z14_5) fun r38 =>
          mo_br (r38 = 0) (
            j76
          ) (
            mo_rL f_past 61 z2_3 fun v49 =>
            mo_bd (m_mm_in v49 z14_5) fun r52 =>
            mo_br (r52 = 0) (
              mo_rL f_past 61 z14_5 fun v64 =>
              mo_bd (m_mm_in v64 z2_3) fun r66 =>
              mo_br (r66 = 0) (
                j77 1
              ) (
                j76
              )
            ) (
              j76
            )
          )
        )
      )
    )
def m_mm_goes_L2 (v_limit : Int32) (f_past : Nat → Int64) (x1 : Int64) (bk2 : Int32 → Option (Int32)) : Int32 → Option (Int32)
  | z2_3 =>
    mo_br (60 ≤ z2_3) (
      some ((1 : Int32))
    ) (
      mo_bd (mo_lp (m_mm_goes_L14 f_past x1 z2_3) 1000 (0, 0)) fun y14_4 =>
      mo_br (y14_4 ≤ v_limit) (
        bk2 (z2_3 + 1)
      ) (
        some ((0 : Int32))
      )
    )
def m_mm_goes (v_limit : Int32) (f_past : Nat → Int64) (x1 : Int64) : Option (Int32) :=
  mo_lp (m_mm_goes_L2 v_limit f_past x1) 1000 0
def m_mm_many_L4 (x0 : Int64) (bk4 : Int32 × Int32 → Option (Int32)) : Int32 × Int32 → Option (Int32)
  | (z4_2, z4_3) =>
    mo_br (60 ≤ z4_3) (
      some z4_2
    ) (
      mo_bd (m_mm_in x0 z4_3) fun r12 =>
      mo_jn (fun (s25_0 : Int32) =>
        bk4 (s25_0, z4_3 + 1)
      ) fun j25 =>
      mo_br (r12 = 0) (
        j25 z4_2
      ) (
        j25 (z4_2 + 1)
      )
    )
def m_mm_many (x0 : Int64) : Option (Int32) :=
  mo_bd (mo_lp (m_mm_many_L4 x0) 1000 (0, 0)) fun y4_2 =>
  some y4_2
def m_mm_work_L140 (v_limit : Int32) (g107 : Nat → Int64) (r132 : Int32) (r132_0 : Nat → Int32) (bk140 : Int64 × Int32 → Option (Int64)) : Int64 × Int32 → Option (Int64)
  | (z140_7, z140_10) =>
    mo_br (r132 ≤ z140_10) (
      some z140_7
    ) (
      mo_rI r132_0 64 z140_10 fun v157 =>
      mo_bd (m_mm_goes v_limit g107 (z140_7 ||| ((1 : Int64) <<< (v157.toInt64 &&& 63)))) fun r160 =>
      mo_jn (fun (y180_7 : Int64) =>
        bk140 (y180_7, z140_10 + 1)
      ) fun j180 =>
      mo_br (r160 = 0) (
        j180 z140_7
      ) (
        mo_rI r132_0 64 z140_10 fun v175 =>
        j180 (z140_7 ||| ((1 : Int64) <<< (v175.toInt64 &&& 63)))
      )
    )
def m_mm_work_L9 (f_past : Nat → Int64) (f_score : Nat → Int32) (f_hash : Nat → Int32) (x2 : Int64) (bk9 : Int32 × Int64 × Int32 → Option (Int32 × Int64)) : Int32 × Int64 × Int32 → Option (Int32 × Int64)
  | (z9_4, z9_5, z9_7) =>
    mo_br (60 ≤ z9_7) (
      some (z9_4, z9_5)
    ) (
      mo_bd (m_mm_in x2 z9_7) fun r19 =>
      mo_jn (fun (y94_4 : Int32) (y94_5 : Int64) =>
        bk9 (y94_4, y94_5, z9_7 + 1)
      ) fun j94 =>
      mo_br (r19 = 0) (
        j94 z9_4 z9_5
      ) (
        mo_rL f_past 61 z9_7 fun v36 =>
        mo_jn (
          j94 z9_7 (z9_5 ||| v36)
        ) fun j90 =>
        mo_br (z9_4 < 0) (
          j90
        ) (
          mo_rI f_score 61 z9_7 fun v51 =>
          mo_rI f_score 61 z9_4 fun v58 =>
          mo_br (v58 < v51) (
            j90
          ) (
            mo_rI f_score 61 z9_7 fun v68 =>
            mo_rI f_score 61 z9_4 fun v75 =>
            mo_br (v68 = v75) (
              mo_bd (m_mm_earlier f_hash z9_7 z9_4) fun r84 =>
              mo_br (r84 = 0) (
                j94 z9_4 (z9_5 ||| v36)
              ) (
                j90
              )
            ) (
              j94 z9_4 (z9_5 ||| v36)
            )
          )
        )
      )
    )
def m_mm_work (v_limit : Int32) (f_past : Nat → Int64) (f_score : Nat → Int32) (f_hash : Nat → Int32) (f_selected : Nat → Int32) (f_blues : Nat → Int64) (f_merged : Nat → Int32) (x1 : Int32) (x2 : Int64) : Option ((Nat → Int64) × (Nat → Int32) × (Nat → Int32) × (Nat → Int64) × (Nat → Int32)) :=
  mo_bd (mo_lp (m_mm_work_L9 f_past f_score f_hash x2) 1000 ((-1), x2, 0)) fun (y9_4, y9_5) =>
  mo_wL f_past 61 x1 y9_5 fun g107 =>
  mo_wI f_selected 61 x1 y9_4 fun g115 =>
  mo_rL f_blues 61 y9_4 fun v122 =>
  mo_bd (m_mm_merge g107 g115 f_score f_hash f_merged x1) fun (r132, r132_0) =>
  mo_bd (mo_lp (m_mm_work_L140 v_limit g107 r132 r132_0) 1000 (v122 ||| ((1 : Int64) <<< (y9_4.toInt64 &&& 63)), 0)) fun y140_7 =>
  mo_wL f_blues 61 x1 y140_7 fun g193 =>
  mo_bd (m_mm_many y140_7) fun r201 =>
  mo_wI f_score 61 x1 r201 fun g204 =>
  some (g107, g204, g115, g193, r132_0)
def m_mm_line_L36 (r27_0 : Nat → Int32) (bk36 : Int32 × Int32 × (Nat → Int32) → Option (Int32 × (Nat → Int32))) : Int32 × Int32 × (Nat → Int32) → Option (Int32 × (Nat → Int32))
  | (z36_1, z36_4, z36_f_order) =>
    mo_br (z36_4 < 0) (
      some (z36_1, z36_f_order)
    ) (
      mo_rI r27_0 64 z36_4 fun v55 =>
      mo_wI z36_f_order 64 (z36_1 + (-1)) v55 fun g56 =>
      bk36 (z36_1 + (-1), z36_4 + (-1), g56)
    )
def m_mm_line_L16 (f_selected : Nat → Int32) (f_past : Nat → Int64) (f_score : Nat → Int32) (f_hash : Nat → Int32) (bk16 : Int32 × Int32 × (Nat → Int32) × (Nat → Int32) → Option ((Nat → Int32) × (Nat → Int32))) : Int32 × Int32 × (Nat → Int32) × (Nat → Int32) → Option ((Nat → Int32) × (Nat → Int32))
  | (z16_1, z16_2, z16_f_merged, z16_f_order) =>
    mo_rI f_selected 61 z16_2 fun v21 =>
    mo_br (v21 < 0) (
      some (z16_f_merged, z16_f_order)
    ) (
      mo_bd (m_mm_merge f_past f_selected f_score f_hash z16_f_merged z16_2) fun (r27, r27_0) =>
      mo_bd (mo_lp (m_mm_line_L36 r27_0) 1000 (z16_1, r27 - 1, z16_f_order)) fun (y36_1, y36_f_order) =>
      mo_rI f_selected 61 z16_2 fun v71 =>
      mo_wI y36_f_order 64 (y36_1 + (-1)) v71 fun g79 =>
      bk16 (y36_1 + (-1), v71, r27_0, g79)
    )
def m_mm_line (v_dag : Int64) (v_places : Int32) (f_selected : Nat → Int32) (f_past : Nat → Int64) (f_score : Nat → Int32) (f_hash : Nat → Int32) (f_merged : Nat → Int32) (f_order : Nat → Int32) : Option (Int32 × (Nat → Int32) × (Nat → Int32)) :=
  mo_bd (m_mm_many v_dag) fun r4 =>
  mo_bd (mo_lp (m_mm_line_L16 f_selected f_past f_score f_hash) 1000 (r4, 60, f_merged, f_order)) fun (y16_f_merged, y16_f_order) =>
  some (r4, y16_f_merged, y16_f_order)
def m_mm_there (f_free : Nat → Int32) (f_coin : Nat → Int32) (x1 : Int32) (x2 : Int32) : Option (Int32) :=
  mo_br (100 ≤ x1) (
    mo_br (x2 = 0) (
      mo_rI f_coin 60 (x1 - 100) fun v31 =>
      mo_br (v31 = 0) (
        some ((0 : Int32))
      ) (
        some ((1 : Int32))
      )
    ) (
      some ((0 : Int32))
    )
  ) (
    mo_rI f_free 80 (((2 : Int32) * x1) + x2) fun v15 =>
    mo_bz v15 (some v15)
  )
def m_mm_lockOf (f_lock : Nat → Int32) (f_blockLock : Nat → Int32) (x1 : Int32) (x2 : Int32) : Option (Int32) :=
  mo_br (100 ≤ x1) (
    mo_rI f_blockLock 62 (x1 - 100) fun v27 =>
    some v27
  ) (
    mo_rI f_lock 82 (((2 : Int32) * x1) + x2) fun v15 =>
    some v15
  )
def m_mm_worthOf (f_amount : Nat → Int32) (f_worth : Nat → Int32) (x1 : Int32) (x2 : Int32) : Option (Int32) :=
  mo_br (100 ≤ x1) (
    mo_rI f_worth 60 (x1 - 100) fun v27 =>
    some v27
  ) (
    mo_rI f_amount 82 (((2 : Int32) * x1) + x2) fun v15 =>
    some v15
  )
def m_mm_over_L49 (f_amount : Nat → Int32) (f_outputs : Nat → Int32) (x1 : Int32) (bk49 : Int32 × Int32 → Option (Int32)) : Int32 × Int32 → Option (Int32)
  | (z49_2, z49_3) =>
    mo_rI f_outputs 41 x1 fun v55 =>
    mo_br (v55 ≤ z49_3) (
      some z49_2
    ) (
      mo_rI f_amount 82 (((2 : Int32) * x1) + z49_3) fun v69 =>
      bk49 (z49_2 - v69, z49_3 + 1)
    )
def m_mm_over_L4 (f_inputs : Nat → Int32) (f_source : Nat → Int32) (f_index : Nat → Int32) (f_amount : Nat → Int32) (f_worth : Nat → Int32) (x1 : Int32) (bk4 : Int32 × Int32 → Option (Int32)) : Int32 × Int32 → Option (Int32)
  | (z4_2, z4_3) =>
    mo_rI f_inputs 41 x1 fun v10 =>
    mo_br (v10 ≤ z4_3) (
      some z4_2
    ) (
      mo_rI f_source 82 (((2 : Int32) * x1) + z4_3) fun v25 =>
      mo_rI f_index 82 (((2 : Int32) * x1) + z4_3) fun v35 =>
      mo_bd (m_mm_worthOf f_amount f_worth v25 v35) fun r36 =>
      bk4 (z4_2 + r36, z4_3 + 1)
    )
def m_mm_over (f_inputs : Nat → Int32) (f_source : Nat → Int32) (f_index : Nat → Int32) (f_amount : Nat → Int32) (f_worth : Nat → Int32) (f_outputs : Nat → Int32) (x1 : Int32) : Option (Int32) :=
  mo_bd (mo_lp (m_mm_over_L4 f_inputs f_source f_index f_amount f_worth x1) 1000 (0, 0)) fun y4_2 =>
  mo_bd (mo_lp (m_mm_over_L49 f_amount f_outputs x1) 1000 (y4_2, 0)) fun y49_2 =>
  some y49_2
def m_mm_fits_L13 (f_inputs : Nat → Int32) (f_source : Nat → Int32) (f_index : Nat → Int32) (f_free : Nat → Int32) (f_coin : Nat → Int32) (f_lock : Nat → Int32) (f_blockLock : Nat → Int32) (f_secret : Nat → Int32) (x1 : Int32) (j89 : Option (Int32)) (bk13 : Int32 → Option (Int32)) : Int32 → Option (Int32)
  | z13_2 =>
    mo_rI f_inputs 41 x1 fun v19 =>
    mo_br (v19 ≤ z13_2) (
      j89
    ) (
      mo_rI f_source 82 (((2 : Int32) * x1) + z13_2) fun v32 =>
      mo_rI f_index 82 (((2 : Int32) * x1) + z13_2) fun v43 =>
      mo_bd (m_mm_there f_free f_coin v32 v43) fun r50 =>
      mo_br (r50 = 0) (
        some ((0 : Int32))
      ) (
        mo_bd (m_mm_lockOf f_lock f_blockLock v32 v43) fun r60 =>
        mo_rI f_secret 82 (((2 : Int32) * x1) + z13_2) fun v74 =>
        mo_bd (m_mm_mix 7 v74) fun r75 =>
        mo_br (r60 = r75) (
          bk13 (z13_2 + 1)
        ) (
          some ((0 : Int32))
        )
      )
    )
def m_mm_fits (f_accepted : Nat → Int32) (f_inputs : Nat → Int32) (f_source : Nat → Int32) (f_index : Nat → Int32) (f_free : Nat → Int32) (f_coin : Nat → Int32) (f_lock : Nat → Int32) (f_blockLock : Nat → Int32) (f_secret : Nat → Int32) (f_amount : Nat → Int32) (f_worth : Nat → Int32) (f_outputs : Nat → Int32) (x1 : Int32) : Option (Int32) :=
  mo_rI f_accepted 40 x1 fun v5 =>
  mo_br (v5 = 0) (
    mo_jn (
      mo_rI f_inputs 41 x1 fun v94 =>
      mo_jn (fun (s146_0 : Int32) =>
        mo_br (s146_0 = 0) (
          mo_bd (m_mm_over f_inputs f_source f_index f_amount f_worth f_outputs x1) fun r153 =>
          mo_br (r153 < 0) (
            some ((0 : Int32))
          ) (
            some ((1 : Int32))
          )
        ) (
          some ((0 : Int32))
        )
      ) fun j146 =>
      mo_jn (
        j146 0
      ) fun j145 =>
      mo_br (v94 = 2) (
        mo_rI f_source 82 ((2 : Int32) * x1) fun v106 =>
        mo_rI f_source 82 (((2 : Int32) * x1) + 1) fun v116 =>
        mo_br (v106 = v116) (
          mo_rI f_index 82 ((2 : Int32) * x1) fun v127 =>
          mo_rI f_index 82 (((2 : Int32) * x1) + 1) fun v137 =>
          mo_br (v127 = v137) (
            j146 1
          ) (
            j145
          )
        ) (
          j145
        )
      ) (
        j145
      )
    ) fun j89 =>
    mo_lp (m_mm_fits_L13 f_inputs f_source f_index f_free f_coin f_lock f_blockLock f_secret x1 j89) 1000 0
  ) (
    some ((0 : Int32))
  )
def m_mm_take_L87 (f_outputs : Nat → Int32) (x1 : Int32) (bk87 : Int32 × (Nat → Int32) → Option ((Nat → Int32))) : Int32 × (Nat → Int32) → Option ((Nat → Int32))
  | (z87_3, z87_f_free) =>
    mo_rI f_outputs 41 x1 fun v93 =>
    mo_br (v93 ≤ z87_3) (
      some z87_f_free
    ) (
      mo_wZ z87_f_free 80 (((2 : Int32) * x1) + z87_3) 1 fun g107 =>
      bk87 (z87_3 + 1, g107)
    )
def m_mm_take_L15 (f_inputs : Nat → Int32) (f_source : Nat → Int32) (f_index : Nat → Int32) (x1 : Int32) (bk15 : Int32 × (Nat → Int32) × (Nat → Int32) → Option ((Nat → Int32) × (Nat → Int32))) : Int32 × (Nat → Int32) × (Nat → Int32) → Option ((Nat → Int32) × (Nat → Int32))
  | (z15_3, z15_f_free, z15_f_coin) =>
    mo_rI f_inputs 41 x1 fun v21 =>
    mo_br (v21 ≤ z15_3) (
      some (z15_f_free, z15_f_coin)
    ) (
      mo_rI f_source 82 (((2 : Int32) * x1) + z15_3) fun v34 =>
      mo_jn (fun (y79_f_free : Nat → Int32) (y79_f_coin : Nat → Int32) =>
        bk15 (z15_3 + 1, y79_f_free, y79_f_coin)
      ) fun j79 =>
      mo_br (100 ≤ v34) (
        mo_wZ z15_f_coin 60 (v34 - 100) 0 fun g78 =>
        j79 z15_f_free g78
      ) (
        mo_rI f_index 82 (((2 : Int32) * x1) + z15_3) fun v61 =>
        mo_wZ z15_f_free 80 (((2 : Int32) * v34) + v61) 0 fun g64 =>
        j79 g64 z15_f_coin
      )
    )
def m_mm_take (f_inputs : Nat → Int32) (f_source : Nat → Int32) (f_index : Nat → Int32) (f_amount : Nat → Int32) (f_worth : Nat → Int32) (f_outputs : Nat → Int32) (f_accepted : Nat → Int32) (f_free : Nat → Int32) (f_coin : Nat → Int32) (x1 : Int32) : Option (Int32 × (Nat → Int32) × (Nat → Int32) × (Nat → Int32)) :=
  mo_bd (m_mm_over f_inputs f_source f_index f_amount f_worth f_outputs x1) fun r2 =>
  mo_wZ f_accepted 40 x1 1 fun g12 =>
  mo_bd (mo_lp (m_mm_take_L15 f_inputs f_source f_index x1) 1000 (0, f_free, f_coin)) fun (y15_f_free, y15_f_coin) =>
  mo_bd (mo_lp (m_mm_take_L87 f_outputs x1) 1000 (0, y15_f_free)) fun y87_f_free =>
  some (r2, g12, y87_f_free, y15_f_coin)
def m_mm_pay_L4 (f_holds : Nat → Int32) (f_held : Nat → Int32) (f_inputs : Nat → Int32) (f_source : Nat → Int32) (f_index : Nat → Int32) (f_lock : Nat → Int32) (f_blockLock : Nat → Int32) (f_secret : Nat → Int32) (f_amount : Nat → Int32) (f_worth : Nat → Int32) (f_outputs : Nat → Int32) (x1 : Int32) (bk4 : Int32 × Int32 × (Nat → Int32) × (Nat → Int32) × (Nat → Int32) → Option (Int32 × (Nat → Int32) × (Nat → Int32) × (Nat → Int32))) : Int32 × Int32 × (Nat → Int32) × (Nat → Int32) × (Nat → Int32) → Option (Int32 × (Nat → Int32) × (Nat → Int32) × (Nat → Int32))
  | (z4_2, z4_3, z4_f_accepted, z4_f_free, z4_f_coin) =>
    mo_rI f_holds 62 x1 fun v10 =>
    mo_br (v10 ≤ z4_3) (
      some (z4_2, z4_f_accepted, z4_f_free, z4_f_coin)
    ) (
      mo_rI f_held 186 (((3 : Int32) * x1) + z4_3) fun v23 =>
      mo_bd (m_mm_fits z4_f_accepted f_inputs f_source f_index z4_f_free z4_f_coin f_lock f_blockLock f_secret f_amount f_worth f_outputs v23) fun r29 =>
      mo_jn (fun (y44_2 : Int32) (y44_f_accepted : Nat → Int32) (y44_f_free : Nat → Int32) (y44_f_coin : Nat → Int32) =>
        bk4 (y44_2, z4_3 + 1, y44_f_accepted, y44_f_free, y44_f_coin)
      ) fun j44 =>
      mo_br (r29 = 0) (
        j44 z4_2 z4_f_accepted z4_f_free z4_f_coin
      ) (
        mo_bd (m_mm_take f_inputs f_source f_index f_amount f_worth f_outputs z4_f_accepted z4_f_free z4_f_coin v23) fun (r39, r39_0, r39_1, r39_2) =>
        j44 (z4_2 + r39) r39_0 r39_1 r39_2
      )
    )
def m_mm_pay (f_holds : Nat → Int32) (f_held : Nat → Int32) (f_accepted : Nat → Int32) (f_inputs : Nat → Int32) (f_source : Nat → Int32) (f_index : Nat → Int32) (f_free : Nat → Int32) (f_coin : Nat → Int32) (f_lock : Nat → Int32) (f_blockLock : Nat → Int32) (f_secret : Nat → Int32) (f_amount : Nat → Int32) (f_worth : Nat → Int32) (f_outputs : Nat → Int32) (f_blues : Nat → Int64) (f_score : Nat → Int32) (x1 : Int32) : Option ((Nat → Int32) × (Nat → Int32) × (Nat → Int32) × (Nat → Int32)) :=
  mo_bd (mo_lp (m_mm_pay_L4 f_holds f_held f_inputs f_source f_index f_lock f_blockLock f_secret f_amount f_worth f_outputs x1) 1000 (0, 0, f_accepted, f_free, f_coin)) fun (y4_2, y4_f_accepted, y4_f_free, y4_f_coin) =>
  mo_rL f_blues 61 60 fun v61 =>
  mo_bd (m_mm_in v61 x1) fun r63 =>
  mo_wZ y4_f_coin 60 x1 r63 fun g66 =>
  mo_rI f_score 61 x1 fun v77 =>
  mo_jn (fun (s99_0 : Int32) =>
    mo_wI f_worth 60 x1 (s99_0 + y4_2) fun g101 =>
    some (y4_f_accepted, y4_f_free, g66, g101)
  ) fun j99 =>
  mo_br (56 ≤ v77) (
    j99 0
  ) (
    mo_rI f_score 61 x1 fun v90 =>
    j99 ((64 : Int32) >>> ((v90 / 8) &&& 31))
  )
def m_mm_look_L79 (f_holds : Nat → Int32) (f_held : Nat → Int32) (f_inputs : Nat → Int32) (f_source : Nat → Int32) (f_index : Nat → Int32) (f_lock : Nat → Int32) (f_blockLock : Nat → Int32) (f_secret : Nat → Int32) (f_amount : Nat → Int32) (f_outputs : Nat → Int32) (r7_1 : Nat → Int32) (r7_3 : Nat → Int64) (r11_0 : Int32) (r11_2 : Nat → Int32) (bk79 : Int32 × (Nat → Int32) × (Nat → Int32) × (Nat → Int32) × (Nat → Int32) → Option ((Nat → Int32) × (Nat → Int32) × (Nat → Int32) × (Nat → Int32))) : Int32 × (Nat → Int32) × (Nat → Int32) × (Nat → Int32) × (Nat → Int32) → Option ((Nat → Int32) × (Nat → Int32) × (Nat → Int32) × (Nat → Int32))
  | (z79_1, z79_f_accepted, z79_f_free, z79_f_coin, z79_f_worth) =>
    mo_br (r11_0 ≤ z79_1) (
      some (z79_f_accepted, z79_f_free, z79_f_coin, z79_f_worth)
    ) (
      mo_rI r11_2 64 z79_1 fun v93 =>
      mo_bd (m_mm_pay f_holds f_held z79_f_accepted f_inputs f_source f_index z79_f_free z79_f_coin f_lock f_blockLock f_secret f_amount z79_f_worth f_outputs r7_3 r7_1 v93) fun (r94_0, r94_1, r94_2, r94_3) =>
      bk79 (z79_1 + 1, r94_0, r94_1, r94_2, r94_3)
    )
def m_mm_look_L58 (bk58 : Int32 × (Nat → Int32) → Option ((Nat → Int32))) : Int32 × (Nat → Int32) → Option ((Nat → Int32))
  | (z58_1, z58_f_coin) =>
    mo_br (60 ≤ z58_1) (
      some z58_f_coin
    ) (
      mo_wZ z58_f_coin 60 z58_1 0 fun g70 =>
      bk58 (z58_1 + 1, g70)
    )
def m_mm_look_L37 (bk37 : Int32 × (Nat → Int32) → Option ((Nat → Int32))) : Int32 × (Nat → Int32) → Option ((Nat → Int32))
  | (z37_1, z37_f_free) =>
    mo_br (80 ≤ z37_1) (
      some z37_f_free
    ) (
      mo_wZ z37_f_free 80 z37_1 0 fun g49 =>
      bk37 (z37_1 + 1, g49)
    )
def m_mm_look_L16 (bk16 : Int32 × (Nat → Int32) → Option ((Nat → Int32))) : Int32 × (Nat → Int32) → Option ((Nat → Int32))
  | (z16_1, z16_f_accepted) =>
    mo_br (40 ≤ z16_1) (
      some z16_f_accepted
    ) (
      mo_wZ z16_f_accepted 40 z16_1 0 fun g28 =>
      bk16 (z16_1 + 1, g28)
    )
def m_mm_look (v_limit : Int32) (v_blocks : Int32) (v_dag : Int64) (v_places : Int32) (f_parents : Nat → Int32) (f_parent : Nat → Int32) (f_past : Nat → Int64) (f_score : Nat → Int32) (f_hash : Nat → Int32) (f_selected : Nat → Int32) (f_blues : Nat → Int64) (f_merged : Nat → Int32) (f_order : Nat → Int32) (f_accepted : Nat → Int32) (f_free : Nat → Int32) (f_coin : Nat → Int32) (f_holds : Nat → Int32) (f_held : Nat → Int32) (f_inputs : Nat → Int32) (f_source : Nat → Int32) (f_index : Nat → Int32) (f_lock : Nat → Int32) (f_blockLock : Nat → Int32) (f_secret : Nat → Int32) (f_amount : Nat → Int32) (f_worth : Nat → Int32) (f_outputs : Nat → Int32) : Option (Int32 × (Nat → Int64) × (Nat → Int32) × (Nat → Int32) × (Nat → Int64) × (Nat → Int32) × (Nat → Int32) × (Nat → Int32) × (Nat → Int32) × (Nat → Int32) × (Nat → Int32)) :=
  mo_bd (m_mm_tips v_blocks v_dag f_parents f_parent) fun r4 =>
  mo_bd (m_mm_work v_limit f_past f_score f_hash f_selected f_blues f_merged 60 r4) fun (r7_0, r7_1, r7_2, r7_3, r7_4) =>
  mo_bd (m_mm_line v_dag v_places r7_2 r7_0 r7_1 f_hash r7_4 f_order) fun (r11_0, r11_1, r11_2) =>
  mo_bd (mo_lp m_mm_look_L16 1000 (0, f_accepted)) fun y16_f_accepted =>
  mo_bd (mo_lp m_mm_look_L37 1000 (0, f_free)) fun y37_f_free =>
  mo_bd (mo_lp m_mm_look_L58 1000 (0, f_coin)) fun y58_f_coin =>
  mo_bd (mo_lp (m_mm_look_L79 f_holds f_held f_inputs f_source f_index f_lock f_blockLock f_secret f_amount f_outputs r7_1 r7_3 r11_0 r11_2) 1000 (0, y16_f_accepted, y37_f_free, y58_f_coin, f_worth)) fun (y79_f_accepted, y79_f_free, y79_f_coin, y79_f_worth) =>
  some (r11_0, r7_0, r7_1, r7_2, r7_3, r11_1, r11_2, y79_f_accepted, y79_f_free, y79_f_coin, y79_f_worth)
def m_mm_isBlock (v_blocks : Int32) (x1 : Int32) : Option (Int32) :=
  mo_br (x1 < 0) (
    some ((0 : Int32))
  ) (
    mo_br (v_blocks ≤ x1) (
      some ((0 : Int32))
    ) (
      some ((1 : Int32))
    )
  )
def m_mm_input (v_made : Int32) (v_blocks : Int32) (f_inputs : Nat → Int32) (f_source : Nat → Int32) (f_index : Nat → Int32) (f_secret : Nat → Int32) (x1 : Int32) (x2 : Int32) (x3 : Int32) : Option (Int32 × (Nat → Int32) × (Nat → Int32) × (Nat → Int32) × (Nat → Int32)) :=
  mo_jn (fun (s22_0 : Int32) =>
    mo_jn (fun (s41_0 : Int32) =>
      mo_jn (
        mo_br (x2 < 0) (
          some ((0 : Int32), f_inputs, f_source, f_index, f_secret)
        ) (
          mo_jn (fun (s68_0 : Int32) =>
            mo_br (s68_0 < x2) (
              some ((0 : Int32), f_inputs, f_source, f_index, f_secret)
            ) (
              mo_rI f_inputs 41 40 fun v77 =>
              mo_br (v77 = 2) (
                some ((0 : Int32), f_inputs, f_source, f_index, f_secret)
              ) (
                mo_rI f_inputs 41 40 fun v92 =>
                mo_wI f_source 82 ((80 : Int32) + v92) x1 fun g103 =>
                mo_wI f_index 82 ((80 : Int32) + v92) x2 fun g111 =>
                mo_wI f_secret 82 ((80 : Int32) + v92) x3 fun g119 =>
                mo_rI f_inputs 41 40 fun v127 =>
                mo_wI f_inputs 41 40 (v127 + 1) fun g130 =>
                some ((1 : Int32), g130, g103, g111, g119)
              )
            )
          ) fun j68 =>
          mo_br (s22_0 = 0) (
            j68 1
          ) (
            j68 0
          )
        )
      ) fun j53 =>
      mo_br (s22_0 = 0) (
        mo_br (s41_0 = 0) (
          some ((0 : Int32), f_inputs, f_source, f_index, f_secret)
        ) (
          j53
        )
      ) (
        j53
      )
    ) fun j41 =>
    mo_jn (
      j41 0
    ) fun j40 =>
    mo_br (x1 < 0) (
      j40
    ) (
      mo_br (v_made ≤ x1) (
        j40
      ) (
        j41 1
      )
    )
  ) fun j22 =>
  mo_jn (
    j22 0
  ) fun j21 =>
  mo_br (x1 < 100) (
    j21
  ) (
    mo_br (v_blocks ≤ (x1 - 100)) (
      j21
    ) (
      j22 1
    )
  )
def m_mm_output (f_outputs : Nat → Int32) (f_lock : Nat → Int32) (f_amount : Nat → Int32) (x1 : Int32) (x2 : Int32) : Option (Int32 × (Nat → Int32) × (Nat → Int32) × (Nat → Int32)) :=
  mo_br (x2 < 0) (
    some ((0 : Int32), f_outputs, f_lock, f_amount)
  ) (
    mo_br (1000 < x2) (
      some ((0 : Int32), f_outputs, f_lock, f_amount)
    ) (
      mo_rI f_outputs 41 40 fun v17 =>
      mo_br (v17 = 2) (
        some ((0 : Int32), f_outputs, f_lock, f_amount)
      ) (
        mo_rI f_outputs 41 40 fun v32 =>
        mo_bd (m_mm_mix 7 x1) fun r43 =>
        mo_wI f_lock 82 ((80 : Int32) + v32) r43 fun g46 =>
        mo_wI f_amount 82 ((80 : Int32) + v32) x2 fun g53 =>
        mo_rI f_outputs 41 40 fun v61 =>
        mo_wI f_outputs 41 40 (v61 + 1) fun g64 =>
        some ((1 : Int32), g64, g46, g53)
      )
    )
  )
def m_mm_transaction_L221 (v_made : Int32) (g71 : Nat → Int32) (bk221 : Int32 × Int32 × (Nat → Int32) × (Nat → Int32) → Option (Int32 × (Nat → Int32) × (Nat → Int32))) : Int32 × Int32 × (Nat → Int32) × (Nat → Int32) → Option (Int32 × (Nat → Int32) × (Nat → Int32))
  | (z221_2, z221_3, z221_f_lock, z221_f_amount) =>
    mo_rI g71 41 v_made fun v227 =>
    mo_br (v227 ≤ z221_3) (
      some (z221_2, z221_f_lock, z221_f_amount)
    ) (
      mo_rI z221_f_lock 82 ((80 : Int32) + z221_3) fun v248 =>
      mo_wI z221_f_lock 82 (((2 : Int32) * v_made) + z221_3) v248 fun g249 =>
      mo_rI z221_f_amount 82 ((80 : Int32) + z221_3) fun v267 =>
      mo_wI z221_f_amount 82 (((2 : Int32) * v_made) + z221_3) v267 fun g268 =>
      mo_rI g249 82 ((80 : Int32) + z221_3) fun v278 =>
      mo_bd (m_mm_mix z221_2 v278) fun r279 =>
      mo_rI g268 82 ((80 : Int32) + z221_3) fun v290 =>
      mo_bd (m_mm_mix r279 v290) fun r291 =>
      bk221 (r291, z221_3 + 1, g249, g268)
    )
def m_mm_transaction_L77 (v_made : Int32) (f_id : Nat → Int32) (f_hash : Nat → Int32) (g58 : Nat → Int32) (bk77 : Int32 × Int32 × (Nat → Int32) × (Nat → Int32) × (Nat → Int32) → Option (Int32 × (Nat → Int32) × (Nat → Int32) × (Nat → Int32))) : Int32 × Int32 × (Nat → Int32) × (Nat → Int32) × (Nat → Int32) → Option (Int32 × (Nat → Int32) × (Nat → Int32) × (Nat → Int32))
  | (z77_2, z77_3, z77_f_source, z77_f_index, z77_f_secret) =>
    mo_rI g58 41 v_made fun v83 =>
    mo_br (v83 ≤ z77_3) (
      some (z77_2, z77_f_source, z77_f_index, z77_f_secret)
    ) (
      mo_rI z77_f_source 82 ((80 : Int32) + z77_3) fun v104 =>
      mo_wI z77_f_source 82 (((2 : Int32) * v_made) + z77_3) v104 fun g105 =>
      mo_rI z77_f_index 82 ((80 : Int32) + z77_3) fun v123 =>
      mo_wI z77_f_index 82 (((2 : Int32) * v_made) + z77_3) v123 fun g124 =>
      mo_rI z77_f_secret 82 ((80 : Int32) + z77_3) fun v142 =>
      mo_wI z77_f_secret 82 (((2 : Int32) * v_made) + z77_3) v142 fun g143 =>
      mo_rI g105 82 ((80 : Int32) + z77_3) fun v152 =>
      mo_jn (fun (s183_0 : Int32) =>
        mo_bd (m_mm_mix z77_2 s183_0) fun r183 =>
        mo_rI g124 82 ((80 : Int32) + z77_3) fun v196 =>
        mo_bd (m_mm_mix r183 v196) fun r197 =>
        mo_rI g143 82 ((80 : Int32) + z77_3) fun v208 =>
        mo_bd (m_mm_mix r197 v208) fun r209 =>
        bk77 (r209, z77_3 + 1, g105, g124, g143)
      ) fun j183 =>
      mo_br (100 ≤ v152) (
        mo_rI f_hash 62 (v152 - 100) fun v182 =>
        j183 v182
      ) (
        mo_rI f_id 41 v152 fun v169 =>
        j183 v169
      )
    )
def m_mm_transaction (v_made : Int32) (f_inputs : Nat → Int32) (f_outputs : Nat → Int32) (f_source : Nat → Int32) (f_index : Nat → Int32) (f_secret : Nat → Int32) (f_id : Nat → Int32) (f_hash : Nat → Int32) (f_lock : Nat → Int32) (f_amount : Nat → Int32) : Option (Int32 × Int32 × (Nat → Int32) × (Nat → Int32) × (Nat → Int32) × (Nat → Int32) × (Nat → Int32) × (Nat → Int32) × (Nat → Int32) × (Nat → Int32)) :=
  mo_rI f_inputs 41 40 fun v6 =>
  mo_br (v6 = 0) (
    some (((-1) : Int32), v_made, f_inputs, f_outputs, f_source, f_index, f_secret, f_id, f_lock, f_amount)
  ) (
    mo_rI f_outputs 41 40 fun v16 =>
    mo_br (v16 = 0) (
      some (((-1) : Int32), v_made, f_inputs, f_outputs, f_source, f_index, f_secret, f_id, f_lock, f_amount)
    ) (
      mo_br (v_made = 40) (
        some (((-1) : Int32), v_made, f_inputs, f_outputs, f_source, f_index, f_secret, f_id, f_lock, f_amount)
      ) (
        mo_rI f_inputs 41 40 fun v57 =>
        mo_wI f_inputs 41 v_made v57 fun g58 =>
        mo_rI f_outputs 41 40 fun v70 =>
        mo_wI f_outputs 41 v_made v70 fun g71 =>
        mo_bd (mo_lp (m_mm_transaction_L77 v_made f_id f_hash g58) 1000 (11, 0, f_source, f_index, f_secret)) fun (y77_2, y77_f_source, y77_f_index, y77_f_secret) =>
        mo_bd (mo_lp (m_mm_transaction_L221 v_made g71) 1000 (y77_2, 0, f_lock, f_amount)) fun (y221_2, y221_f_lock, y221_f_amount) =>
        mo_wI f_id 41 v_made y221_2 fun g307 =>
        mo_wI g58 41 40 0 fun g315 =>
        mo_wI g71 41 40 0 fun g323 =>
        some (v_made, v_made + 1, g315, g323, y77_f_source, y77_f_index, y77_f_secret, g307, y221_f_lock, y221_f_amount)
      )
    )
  )
def m_mm_parent_L23 (f_parents : Nat → Int32) (f_parent : Nat → Int32) (x1 : Int32) (j56 : Option (Int32 × (Nat → Int32) × (Nat → Int32))) (bk23 : Int32 → Option (Int32 × (Nat → Int32) × (Nat → Int32))) : Int32 → Option (Int32 × (Nat → Int32) × (Nat → Int32))
  | z23_2 =>
    mo_rI f_parents 62 60 fun v30 =>
    mo_br (v30 ≤ z23_2) (
      j56
    ) (
      mo_rI f_parent 248 ((240 : Int32) + z23_2) fun v43 =>
      mo_br (v43 = x1) (
        some ((0 : Int32), f_parents, f_parent)
      ) (
        bk23 (z23_2 + 1)
      )
    )
def m_mm_parent (v_blocks : Int32) (f_parents : Nat → Int32) (f_parent : Nat → Int32) (x1 : Int32) : Option (Int32 × (Nat → Int32) × (Nat → Int32)) :=
  mo_bd (m_mm_isBlock v_blocks x1) fun r2 =>
  mo_br (r2 = 0) (
    some ((0 : Int32), f_parents, f_parent)
  ) (
    mo_rI f_parents 62 60 fun v14 =>
    mo_br (v14 = 4) (
      some ((0 : Int32), f_parents, f_parent)
    ) (
      mo_jn (
        mo_rI f_parents 62 60 fun v69 =>
        mo_wI f_parent 248 ((240 : Int32) + v69) x1 fun g72 =>
        mo_rI f_parents 62 60 fun v80 =>
        mo_wI f_parents 62 60 (v80 + 1) fun g83 =>
        some ((1 : Int32), g83, g72)
      ) fun j56 =>
      mo_lp (m_mm_parent_L23 f_parents f_parent x1 j56) 1000 0
    )
  )
def m_mm_include_L27 (f_holds : Nat → Int32) (f_held : Nat → Int32) (x1 : Int32) (j60 : Option (Int32 × (Nat → Int32) × (Nat → Int32))) (bk27 : Int32 → Option (Int32 × (Nat → Int32) × (Nat → Int32))) : Int32 → Option (Int32 × (Nat → Int32) × (Nat → Int32))
  | z27_2 =>
    mo_rI f_holds 62 60 fun v34 =>
    mo_br (v34 ≤ z27_2) (
      j60
    ) (
      mo_rI f_held 186 ((180 : Int32) + z27_2) fun v47 =>
      mo_br (v47 = x1) (
        some ((0 : Int32), f_holds, f_held)
      ) (
        bk27 (z27_2 + 1)
      )
    )
def m_mm_include (v_made : Int32) (f_holds : Nat → Int32) (f_held : Nat → Int32) (x1 : Int32) : Option (Int32 × (Nat → Int32) × (Nat → Int32)) :=
  mo_br (x1 < 0) (
    some ((0 : Int32), f_holds, f_held)
  ) (
    mo_br (v_made ≤ x1) (
      some ((0 : Int32), f_holds, f_held)
    ) (
      mo_rI f_holds 62 60 fun v18 =>
      mo_br (v18 = 3) (
        some ((0 : Int32), f_holds, f_held)
      ) (
        mo_jn (
          mo_rI f_holds 62 60 fun v73 =>
          mo_wI f_held 186 ((180 : Int32) + v73) x1 fun g76 =>
          mo_rI f_holds 62 60 fun v84 =>
          mo_wI f_holds 62 60 (v84 + 1) fun g87 =>
          some ((1 : Int32), g87, g76)
        ) fun j60 =>
        mo_lp (m_mm_include_L27 f_holds f_held x1 j60) 1000 0
      )
    )
  )
def m_mm_clear (f_inputs : Nat → Int32) (f_outputs : Nat → Int32) (f_parents : Nat → Int32) (f_holds : Nat → Int32) : Option ((Nat → Int32) × (Nat → Int32) × (Nat → Int32) × (Nat → Int32)) :=
  mo_wI f_inputs 41 40 0 fun g7 =>
  mo_wI f_outputs 41 40 0 fun g15 =>
  mo_wI f_parents 62 60 0 fun g23 =>
  mo_wI f_holds 62 60 0 fun g31 =>
  some (g7, g15, g23, g31)
def m_mm_hashOf_L47 (f_holds : Nat → Int32) (f_held : Nat → Int32) (f_id : Nat → Int32) (x1 : Int32) (bk47 : Int32 × Int32 → Option (Int32)) : Int32 × Int32 → Option (Int32)
  | (z47_3, z47_4) =>
    mo_rI f_holds 62 x1 fun v54 =>
    mo_br (v54 ≤ z47_4) (
      some z47_3
    ) (
      mo_rI f_held 186 (((3 : Int32) * x1) + z47_4) fun v73 =>
      mo_rI f_id 41 v73 fun v74 =>
      mo_bd (m_mm_mix z47_3 v74) fun r75 =>
      bk47 (r75, z47_4 + 1)
    )
def m_mm_hashOf_L6 (f_parents : Nat → Int32) (f_parent : Nat → Int32) (f_hash : Nat → Int32) (x1 : Int32) (bk6 : Int32 × Int32 → Option (Int32)) : Int32 × Int32 → Option (Int32)
  | (z6_3, z6_4) =>
    mo_rI f_parents 62 x1 fun v13 =>
    mo_br (v13 ≤ z6_4) (
      some z6_3
    ) (
      mo_rI f_parent 248 (((4 : Int32) * x1) + z6_4) fun v32 =>
      mo_rI f_hash 62 v32 fun v33 =>
      mo_bd (m_mm_mix z6_3 v33) fun r34 =>
      bk6 (r34, z6_4 + 1)
    )
def m_mm_hashOf (f_parents : Nat → Int32) (f_parent : Nat → Int32) (f_hash : Nat → Int32) (f_holds : Nat → Int32) (f_held : Nat → Int32) (f_id : Nat → Int32) (f_blockLock : Nat → Int32) (x1 : Int32) (x2 : Int32) : Option (Int32) :=
  mo_bd (mo_lp (m_mm_hashOf_L6 f_parents f_parent f_hash x1) 1000 (13, 0)) fun y6_3 =>
  mo_bd (mo_lp (m_mm_hashOf_L47 f_holds f_held f_id x1) 1000 (y6_3, 0)) fun y47_3 =>
  mo_rI f_blockLock 62 x1 fun v91 =>
  mo_bd (m_mm_mix y47_3 v91) fun r92 =>
  mo_bd (m_mm_mix r92 x2) fun r96 =>
  some (r96 &&& 2147483647)
def m_mm_build_L134 (v_blocks : Int32) (f_hash : Nat → Int32) (f_id : Nat → Int32) (x3 : Int32) (g28 : Nat → Int32) (g41 : Nat → Int32) (y45_f_parent : Nat → Int32) (y83_f_held : Nat → Int32) (g130 : Nat → Int32) (bk134 : Int32 → Option (Int32)) : Int32 → Option (Int32)
  | z134_5 =>
    mo_br (39 ≤ z134_5) (
      some z134_5
    ) (
      mo_bd (m_mm_hashOf g28 y45_f_parent f_hash g41 y83_f_held f_id g130 v_blocks (x3 + z134_5)) fun r148 =>
      mo_br (r148 < 536870912) (
        some z134_5
      ) (
        bk134 (z134_5 + 1)
      )
    )
def m_mm_build_L83 (v_blocks : Int32) (x1 : Int32) (bk83 : Int32 × (Nat → Int32) → Option ((Nat → Int32))) : Int32 × (Nat → Int32) → Option ((Nat → Int32))
  | (z83_5, z83_f_held) =>
    mo_br (3 ≤ z83_5) (
      some z83_f_held
    ) (
      mo_rI z83_f_held 186 (((3 : Int32) * x1) + z83_5) fun v110 =>
      mo_wI z83_f_held 186 (((3 : Int32) * v_blocks) + z83_5) v110 fun g111 =>
      bk83 (z83_5 + 1, g111)
    )
def m_mm_build_L45 (v_blocks : Int32) (x1 : Int32) (bk45 : Int32 × (Nat → Int32) → Option ((Nat → Int32))) : Int32 × (Nat → Int32) → Option ((Nat → Int32))
  | (z45_5, z45_f_parent) =>
    mo_br (4 ≤ z45_5) (
      some z45_f_parent
    ) (
      mo_rI z45_f_parent 248 (((4 : Int32) * x1) + z45_5) fun v72 =>
      mo_wI z45_f_parent 248 (((4 : Int32) * v_blocks) + z45_5) v72 fun g73 =>
      bk45 (z45_5 + 1, g73)
    )
def m_mm_build (v_blocks : Int32) (f_parents : Nat → Int32) (f_holds : Nat → Int32) (f_parent : Nat → Int32) (f_held : Nat → Int32) (f_blockLock : Nat → Int32) (f_hash : Nat → Int32) (f_id : Nat → Int32) (x1 : Int32) (x2 : Int32) (x3 : Int32) : Option (Int32 × Int32 × (Nat → Int32) × (Nat → Int32) × (Nat → Int32) × (Nat → Int32) × (Nat → Int32) × (Nat → Int32)) :=
  mo_rI f_parents 62 x1 fun v27 =>
  mo_wI f_parents 62 v_blocks v27 fun g28 =>
  mo_rI f_holds 62 x1 fun v40 =>
  mo_wI f_holds 62 v_blocks v40 fun g41 =>
  mo_bd (mo_lp (m_mm_build_L45 v_blocks x1) 1000 (0, f_parent)) fun y45_f_parent =>
  mo_bd (mo_lp (m_mm_build_L83 v_blocks x1) 1000 (0, f_held)) fun y83_f_held =>
  mo_bd (m_mm_mix 7 x2) fun r127 =>
  mo_wI f_blockLock 62 v_blocks r127 fun g130 =>
  mo_bd (mo_lp (m_mm_build_L134 v_blocks f_hash f_id x3 g28 g41 y45_f_parent y83_f_held g130) 1000 0) fun y134_5 =>
  mo_bd (m_mm_hashOf g28 y45_f_parent f_hash g41 y83_f_held f_id g130 v_blocks (x3 + y134_5)) fun r175 =>
  mo_wI f_hash 62 v_blocks r175 fun g178 =>
  some (v_blocks, v_blocks + 1, g28, g41, y45_f_parent, y83_f_held, g130, g178)
def m_mm_make (v_blocks : Int32) (f_parents : Nat → Int32) (f_holds : Nat → Int32) (f_parent : Nat → Int32) (f_held : Nat → Int32) (f_blockLock : Nat → Int32) (f_hash : Nat → Int32) (f_id : Nat → Int32) (x1 : Int32) (x2 : Int32) : Option (Int32 × Int32 × (Nat → Int32) × (Nat → Int32) × (Nat → Int32) × (Nat → Int32) × (Nat → Int32) × (Nat → Int32)) :=
  mo_rI f_parents 62 60 fun v6 =>
  mo_br (v6 = 0) (
    some (((-1) : Int32), v_blocks, f_parents, f_holds, f_parent, f_held, f_blockLock, f_hash)
  ) (
    mo_br (v_blocks = 60) (
      some (((-1) : Int32), v_blocks, f_parents, f_holds, f_parent, f_held, f_blockLock, f_hash)
    ) (
      mo_bd (m_mm_build v_blocks f_parents f_holds f_parent f_held f_blockLock f_hash f_id 60 x1 x2) fun (r26, r26_0, r26_1, r26_2, r26_3, r26_4, r26_5, r26_6) =>
      mo_wI r26_1 62 60 0 fun g37 =>
      mo_wI r26_2 62 60 0 fun g45 =>
      some (r26, r26_0, g37, g45, r26_3, r26_4, r26_5, r26_6)
    )
  )
def m_mm_settle_L8 (v_pooled : Int32) (f_inputs : Nat → Int32) (f_source : Nat → Int32) (f_index : Nat → Int32) (f_lock : Nat → Int32) (f_blockLock : Nat → Int32) (f_secret : Nat → Int32) (f_amount : Nat → Int32) (f_outputs : Nat → Int32) (r1_10 : Nat → Int32) (bk8 : Int32 × Int32 × (Nat → Int32) × (Nat → Int32) × (Nat → Int32) × (Nat → Int32) → Option (Int32 × (Nat → Int32) × (Nat → Int32) × (Nat → Int32) × (Nat → Int32))) : Int32 × Int32 × (Nat → Int32) × (Nat → Int32) × (Nat → Int32) × (Nat → Int32) → Option (Int32 × (Nat → Int32) × (Nat → Int32) × (Nat → Int32) × (Nat → Int32))
  | (z8_1, z8_2, z8_f_accepted, z8_f_free, z8_f_coin, z8_f_pool) =>
    mo_br (v_pooled ≤ z8_2) (
      some (z8_1, z8_f_accepted, z8_f_free, z8_f_coin, z8_f_pool)
    ) (
      mo_rI z8_f_pool 8 z8_2 fun v22 =>
      mo_bd (m_mm_fits z8_f_accepted f_inputs f_source f_index z8_f_free z8_f_coin f_lock f_blockLock f_secret f_amount r1_10 f_outputs v22) fun r23 =>
      mo_jn (fun (y58_1 : Int32) (y58_f_accepted : Nat → Int32) (y58_f_free : Nat → Int32) (y58_f_coin : Nat → Int32) (y58_f_pool : Nat → Int32) =>
        bk8 (y58_1, z8_2 + 1, y58_f_accepted, y58_f_free, y58_f_coin, y58_f_pool)
      ) fun j58 =>
      mo_br (r23 = 0) (
        j58 z8_1 z8_f_accepted z8_f_free z8_f_coin z8_f_pool
      ) (
        mo_rI z8_f_pool 8 z8_2 fun v38 =>
        mo_bd (m_mm_take f_inputs f_source f_index f_amount r1_10 f_outputs z8_f_accepted z8_f_free z8_f_coin v38) fun (r39, r39_0, r39_1, r39_2) =>
        mo_rI z8_f_pool 8 z8_2 fun v53 =>
        mo_wI z8_f_pool 8 z8_1 v53 fun g54 =>
        j58 (z8_1 + 1) r39_0 r39_1 r39_2 g54
      )
    )
def m_mm_settle (v_limit : Int32) (v_blocks : Int32) (v_dag : Int64) (v_pooled : Int32) (v_places : Int32) (f_parents : Nat → Int32) (f_parent : Nat → Int32) (f_past : Nat → Int64) (f_score : Nat → Int32) (f_hash : Nat → Int32) (f_selected : Nat → Int32) (f_blues : Nat → Int64) (f_merged : Nat → Int32) (f_order : Nat → Int32) (f_accepted : Nat → Int32) (f_free : Nat → Int32) (f_coin : Nat → Int32) (f_holds : Nat → Int32) (f_held : Nat → Int32) (f_inputs : Nat → Int32) (f_source : Nat → Int32) (f_index : Nat → Int32) (f_lock : Nat → Int32) (f_blockLock : Nat → Int32) (f_secret : Nat → Int32) (f_amount : Nat → Int32) (f_worth : Nat → Int32) (f_outputs : Nat → Int32) (f_pool : Nat → Int32) : Option (Int32 × Int32 × (Nat → Int64) × (Nat → Int32) × (Nat → Int32) × (Nat → Int64) × (Nat → Int32) × (Nat → Int32) × (Nat → Int32) × (Nat → Int32) × (Nat → Int32) × (Nat → Int32) × (Nat → Int32)) :=
  mo_bd (m_mm_look v_limit v_blocks v_dag v_places f_parents f_parent f_past f_score f_hash f_selected f_blues f_merged f_order f_accepted f_free f_coin f_holds f_held f_inputs f_source f_index f_lock f_blockLock f_secret f_amount f_worth f_outputs) fun (r1_0, r1_1, r1_2, r1_3, r1_4, r1_5, r1_6, r1_7, r1_8, r1_9, r1_10) =>
  mo_bd (mo_lp (m_mm_settle_L8 v_pooled f_inputs f_source f_index f_lock f_blockLock f_secret f_amount f_outputs r1_10) 1000 (0, 0, r1_7, r1_8, r1_9, f_pool)) fun (y8_1, y8_f_accepted, y8_f_free, y8_f_coin, y8_f_pool) =>
  some (y8_1, r1_0, r1_1, r1_2, r1_3, r1_4, r1_5, r1_6, y8_f_accepted, y8_f_free, y8_f_coin, r1_10, y8_f_pool)
def m_mm_isOrphan_L4 (v_orphans : Int32) (f_orphan : Nat → Int32) (x1 : Int32) (bk4 : Int32 × Int32 → Option (Int32)) : Int32 × Int32 → Option (Int32)
  | (z4_2, z4_3) =>
    mo_br (v_orphans ≤ z4_3) (
      some z4_2
    ) (
      mo_jn (fun (s31_0 : Int32) =>
        bk4 (s31_0, z4_3 + 1)
      ) fun j31 =>
      mo_jn (
        j31 1
      ) fun j26 =>
      mo_br (z4_2 = 0) (
        mo_rI f_orphan 4 z4_3 fun v21 =>
        mo_br (v21 = x1) (
          j26
        ) (
          j31 0
        )
      ) (
        j26
      )
    )
def m_mm_isOrphan (v_orphans : Int32) (f_orphan : Nat → Int32) (x1 : Int32) : Option (Int32) :=
  mo_bd (mo_lp (m_mm_isOrphan_L4 v_orphans f_orphan x1) 1000 (0, 0)) fun y4_2 =>
  mo_bz y4_2 (some y4_2)
def m_mm_complete_L4 (v_dag : Int64) (f_parents : Nat → Int32) (f_parent : Nat → Int32) (x1 : Int32) (bk4 : Int32 × Int32 → Option (Int32)) : Int32 × Int32 → Option (Int32)
  | (z4_2, z4_3) =>
    mo_rI f_parents 62 x1 fun v10 =>
    mo_br (v10 ≤ z4_3) (
      some z4_2
    ) (
      mo_jn (fun (s43_0 : Int32) =>
        bk4 (s43_0, z4_3 + 1)
      ) fun j43 =>
      mo_jn (
        j43 0
      ) fun j42 =>
      mo_br (z4_2 = 0) (
        j42
      ) (
        mo_rI f_parent 248 (((4 : Int32) * x1) + z4_3) fun v31 =>
        mo_bd (m_mm_in v_dag v31) fun r32 =>
        mo_br (r32 = 0) (
          j42
        ) (
          j43 1
        )
      )
    )
def m_mm_complete (v_dag : Int64) (f_parents : Nat → Int32) (f_parent : Nat → Int32) (x1 : Int32) : Option (Int32) :=
  mo_bd (mo_lp (m_mm_complete_L4 v_dag f_parents f_parent x1) 1000 (1, 0)) fun y4_2 =>
  mo_bz y4_2 (some y4_2)
def m_mm_nested_L17 (f_parents : Nat → Int32) (f_parent : Nat → Int32) (f_past : Nat → Int64) (x1 : Int32) (z4_3 : Int32) (bk17 : Int32 × Int32 → Option (Int32)) : Int32 × Int32 → Option (Int32)
  | (z17_2, z17_4) =>
    mo_rI f_parents 62 x1 fun v24 =>
    mo_br (v24 ≤ z17_4) (
      some z17_2
    ) (
      mo_jn (fun (s69_0 : Int32) =>
        bk17 (s69_0, z17_4 + 1)
      ) fun j69 =>
      mo_jn (
        j69 1
      ) fun j64 =>
      mo_br (z17_2 = 0) (
        mo_rI f_parent 248 (((4 : Int32) * x1) + z4_3) fun v45 =>
        mo_rL f_past 61 v45 fun v46 =>
        mo_rI f_parent 248 (((4 : Int32) * x1) + z17_4) fun v57 =>
        mo_bd (m_mm_in v46 v57) fun r58 =>
        mo_br (r58 = 0) (
          j69 0
        ) (
          j64
        )
      ) (
        j64
      )
    )
def m_mm_nested_L4 (f_parents : Nat → Int32) (f_parent : Nat → Int32) (f_past : Nat → Int64) (x1 : Int32) (bk4 : Int32 × Int32 → Option (Int32)) : Int32 × Int32 → Option (Int32)
  | (z4_2, z4_3) =>
    mo_rI f_parents 62 x1 fun v10 =>
    mo_br (v10 ≤ z4_3) (
      some z4_2
    ) (
      mo_bd (mo_lp (m_mm_nested_L17 f_parents f_parent f_past x1 z4_3) 1000 (z4_2, 0)) fun y17_2 =>
      bk4 (y17_2, z4_3 + 1)
    )
def m_mm_nested (f_parents : Nat → Int32) (f_parent : Nat → Int32) (f_past : Nat → Int64) (x1 : Int32) : Option (Int32) :=
  mo_bd (mo_lp (m_mm_nested_L4 f_parents f_parent f_past x1) 1000 (0, 0)) fun y4_2 =>
  mo_bz y4_2 (some y4_2)
def m_mm_enter_L5 (f_parents : Nat → Int32) (f_parent : Nat → Int32) (x1 : Int32) (bk5 : Int64 × Int32 → Option (Int64)) : Int64 × Int32 → Option (Int64)
  | (z5_2, z5_4) =>
    mo_rI f_parents 62 x1 fun v12 =>
    mo_br (v12 ≤ z5_4) (
      some z5_2
    ) (
      mo_rI f_parent 248 (((4 : Int32) * x1) + z5_4) fun v28 =>
      bk5 (z5_2 ||| ((1 : Int64) <<< (v28.toInt64 &&& 63)), z5_4 + 1)
    )
def m_mm_enter (v_limit : Int32) (v_dag : Int64) (f_parents : Nat → Int32) (f_parent : Nat → Int32) (f_past : Nat → Int64) (f_score : Nat → Int32) (f_hash : Nat → Int32) (f_selected : Nat → Int32) (f_blues : Nat → Int64) (f_merged : Nat → Int32) (x1 : Int32) : Option (Int64 × (Nat → Int64) × (Nat → Int32) × (Nat → Int32) × (Nat → Int64) × (Nat → Int32)) :=
  mo_bd (mo_lp (m_mm_enter_L5 f_parents f_parent x1) 1000 (0, 0)) fun y5_2 =>
  mo_bd (m_mm_work v_limit f_past f_score f_hash f_selected f_blues f_merged x1 y5_2) fun (r41_0, r41_1, r41_2, r41_3, r41_4) =>
  some (v_dag ||| ((1 : Int64) <<< (x1.toInt64 &&& 63)), r41_0, r41_1, r41_2, r41_3, r41_4)
def m_mm_removeOrphan_L12 (v_orphans : Int32) (bk12 : Int32 × (Nat → Int32) → Option ((Nat → Int32))) : Int32 × (Nat → Int32) → Option ((Nat → Int32))
  | (z12_2, z12_f_orphan) =>
    mo_br ((v_orphans - 1) ≤ z12_2) (
      some z12_f_orphan
    ) (
      mo_rI z12_f_orphan 4 (z12_2 + 1) fun v32 =>
      mo_wI z12_f_orphan 4 z12_2 v32 fun g33 =>
      bk12 (z12_2 + 1, g33)
    )
def m_mm_removeOrphan (v_orphans : Int32) (f_orphan : Nat → Int32) (x1 : Int32) : Option (Int32 × (Nat → Int32)) :=
  mo_bd (mo_lp (m_mm_removeOrphan_L12 v_orphans) 1000 (x1, f_orphan)) fun y12_f_orphan =>
  some (v_orphans - 1, y12_f_orphan)
def m_mm_ripe_L4 (v_dag : Int64) (v_orphans : Int32) (f_orphan : Nat → Int32) (f_parents : Nat → Int32) (f_parent : Nat → Int32) (bk4 : Int32 × Int32 → Option (Int32)) : Int32 × Int32 → Option (Int32)
  | (z4_1, z4_2) =>
    mo_br (v_orphans ≤ z4_2) (
      some z4_1
    ) (
      mo_rI f_orphan 4 z4_2 fun v18 =>
      mo_bd (m_mm_complete v_dag f_parents f_parent v18) fun r19 =>
      mo_jn (fun (s49_0 : Int32) =>
        mo_jn (fun (s59_0 : Int32) =>
          bk4 (s59_0, z4_2 + 1)
        ) fun j59 =>
        mo_br (s49_0 = 0) (
          j59 z4_1
        ) (
          j59 z4_2
        )
      ) fun j49 =>
      mo_jn (
        j49 0
      ) fun j48 =>
      mo_br (r19 = 0) (
        j48
      ) (
        mo_jn (
          j49 1
        ) fun j44 =>
        mo_br (z4_1 < 0) (
          j44
        ) (
          mo_rI f_orphan 4 z4_2 fun v34 =>
          mo_rI f_orphan 4 z4_1 fun v40 =>
          mo_br (v40 ≤ v34) (
            j48
          ) (
            j44
          )
        )
      )
    )
def m_mm_ripe (v_dag : Int64) (v_orphans : Int32) (f_orphan : Nat → Int32) (f_parents : Nat → Int32) (f_parent : Nat → Int32) : Option (Int32) :=
  mo_bd (mo_lp (m_mm_ripe_L4 v_dag v_orphans f_orphan f_parents f_parent) 1000 ((-1), 0)) fun y4_1 =>
  some y4_1
def m_mm_receive_L114 (v_limit : Int32) (f_hash : Nat → Int32) (f_parents : Nat → Int32) (f_parent : Nat → Int32) (bk114 : Int32 × Int64 × Int32 × (Nat → Int32) × (Nat → Int64) × (Nat → Int32) × (Nat → Int32) × (Nat → Int64) × (Nat → Int32) → Option (Int64 × Int32 × (Nat → Int32) × (Nat → Int64) × (Nat → Int32) × (Nat → Int32) × (Nat → Int64) × (Nat → Int32))) : Int32 × Int64 × Int32 × (Nat → Int32) × (Nat → Int64) × (Nat → Int32) × (Nat → Int32) × (Nat → Int64) × (Nat → Int32) → Option (Int64 × Int32 × (Nat → Int32) × (Nat → Int64) × (Nat → Int32) × (Nat → Int32) × (Nat → Int64) × (Nat → Int32))
  | (z114_2, z114_v_dag, z114_v_orphans, z114_f_orphan, z114_f_past, z114_f_score, z114_f_selected, z114_f_blues, z114_f_merged) =>
    mo_br (z114_2 < 0) (
      some (z114_v_dag, z114_v_orphans, z114_f_orphan, z114_f_past, z114_f_score, z114_f_selected, z114_f_blues, z114_f_merged)
    ) (
      mo_rI z114_f_orphan 4 z114_2 fun v123 =>
      mo_bd (m_mm_removeOrphan z114_v_orphans z114_f_orphan z114_2) fun (r127_0, r127_1) =>
      mo_bd (m_mm_nested f_parents f_parent z114_f_past v123) fun r132 =>
      mo_jn (fun (y143_v_dag : Int64) (y143_f_past : Nat → Int64) (y143_f_score : Nat → Int32) (y143_f_selected : Nat → Int32) (y143_f_blues : Nat → Int64) (y143_f_merged : Nat → Int32) =>
        mo_bd (m_mm_ripe y143_v_dag r127_0 r127_1 f_parents f_parent) fun r144 =>
        bk114 (r144, y143_v_dag, r127_0, r127_1, y143_f_past, y143_f_score, y143_f_selected, y143_f_blues, y143_f_merged)
      ) fun j143 =>
      mo_br (r132 = 0) (
        mo_bd (m_mm_enter v_limit z114_v_dag f_parents f_parent z114_f_past z114_f_score f_hash z114_f_selected z114_f_blues z114_f_merged v123) fun (r140_0, r140_1, r140_2, r140_3, r140_4, r140_5) =>
        j143 r140_0 r140_1 r140_2 r140_3 r140_4 r140_5
      ) (
        j143 z114_v_dag z114_f_past z114_f_score z114_f_selected z114_f_blues z114_f_merged
      )
    )
def m_mm_receive (v_limit : Int32) (v_blocks : Int32) (v_dag : Int64) (v_orphans : Int32) (v_pooled : Int32) (v_places : Int32) (f_hash : Nat → Int32) (f_orphan : Nat → Int32) (f_parents : Nat → Int32) (f_parent : Nat → Int32) (f_past : Nat → Int64) (f_score : Nat → Int32) (f_selected : Nat → Int32) (f_blues : Nat → Int64) (f_merged : Nat → Int32) (f_order : Nat → Int32) (f_accepted : Nat → Int32) (f_free : Nat → Int32) (f_coin : Nat → Int32) (f_holds : Nat → Int32) (f_held : Nat → Int32) (f_inputs : Nat → Int32) (f_source : Nat → Int32) (f_index : Nat → Int32) (f_lock : Nat → Int32) (f_blockLock : Nat → Int32) (f_secret : Nat → Int32) (f_amount : Nat → Int32) (f_worth : Nat → Int32) (f_outputs : Nat → Int32) (f_pool : Nat → Int32) (x1 : Int32) : Option (Int32 × Int64 × Int32 × Int32 × Int32 × (Nat → Int32) × (Nat → Int64) × (Nat → Int32) × (Nat → Int32) × (Nat → Int64) × (Nat → Int32) × (Nat → Int32) × (Nat → Int32) × (Nat → Int32) × (Nat → Int32) × (Nat → Int32) × (Nat → Int32)) :=
  mo_bd (m_mm_isBlock v_blocks x1) fun r2 =>
  mo_br (r2 = 0) (
    some (((-1) : Int32), v_dag, v_orphans, v_pooled, v_places, f_orphan, f_past, f_score, f_selected, f_blues, f_merged, f_order, f_accepted, f_free, f_coin, f_worth, f_pool)
  ) (
    mo_jn (
      mo_bd (m_mm_in v_dag x1) fun r33 =>
      mo_br (r33 = 0) (
        mo_bd (m_mm_isOrphan v_orphans f_orphan x1) fun r41 =>
        mo_br (r41 = 0) (
          mo_bd (m_mm_complete v_dag f_parents f_parent x1) fun r52 =>
          mo_br (r52 = 0) (
            mo_jn (fun (y71_v_orphans : Int32) (y71_f_orphan : Nat → Int32) =>
              mo_wI y71_f_orphan 4 y71_v_orphans x1 fun g80 =>
              some ((1 : Int32), v_dag, y71_v_orphans + 1, v_pooled, v_places, g80, f_past, f_score, f_selected, f_blues, f_merged, f_order, f_accepted, f_free, f_coin, f_worth, f_pool)
            ) fun j71 =>
            mo_br (v_orphans = 4) (
              mo_bd (m_mm_removeOrphan v_orphans f_orphan 0) fun (r68_0, r68_1) =>
              j71 r68_0 r68_1
            ) (
              j71 v_orphans f_orphan
            )
          ) (
            mo_bd (m_mm_nested f_parents f_parent f_past x1) fun r95 =>
            mo_br (r95 = 0) (
              mo_bd (m_mm_enter v_limit v_dag f_parents f_parent f_past f_score f_hash f_selected f_blues f_merged x1) fun (r106_0, r106_1, r106_2, r106_3, r106_4, r106_5) =>
              mo_bd (m_mm_ripe r106_0 v_orphans f_orphan f_parents f_parent) fun r110 =>
              mo_bd (mo_lp (m_mm_receive_L114 v_limit f_hash f_parents f_parent) 1000 (r110, r106_0, v_orphans, f_orphan, r106_1, r106_2, r106_3, r106_4, r106_5)) fun (y114_v_dag, y114_v_orphans, y114_f_orphan, y114_f_past, y114_f_score, y114_f_selected, y114_f_blues, y114_f_merged) =>
              mo_bd (m_mm_settle v_limit v_blocks y114_v_dag v_pooled v_places f_parents f_parent y114_f_past y114_f_score f_hash y114_f_selected y114_f_blues y114_f_merged f_order f_accepted f_free f_coin f_holds f_held f_inputs f_source f_index f_lock f_blockLock f_secret f_amount f_worth f_outputs f_pool) fun (r152_0, r152_1, r152_2, r152_3, r152_4, r152_5, r152_6, r152_7, r152_8, r152_9, r152_10, r152_11, r152_12) =>
              mo_bd (m_mm_look v_limit v_blocks y114_v_dag r152_1 f_parents f_parent r152_2 r152_3 f_hash r152_4 r152_5 r152_6 r152_7 r152_8 r152_9 r152_10 f_holds f_held f_inputs f_source f_index f_lock f_blockLock f_secret f_amount r152_11 f_outputs) fun (r156_0, r156_1, r156_2, r156_3, r156_4, r156_5, r156_6, r156_7, r156_8, r156_9, r156_10) =>
              some ((0 : Int32), y114_v_dag, y114_v_orphans, r152_0, r156_0, y114_f_orphan, r156_1, r156_2, r156_3, r156_4, r156_5, r156_6, r156_7, r156_8, r156_9, r156_10, r152_12)
            ) (
              some (((-4) : Int32), v_dag, v_orphans, v_pooled, v_places, f_orphan, f_past, f_score, f_selected, f_blues, f_merged, f_order, f_accepted, f_free, f_coin, f_worth, f_pool)
            )
          )
        ) (
          some (((-3) : Int32), v_dag, v_orphans, v_pooled, v_places, f_orphan, f_past, f_score, f_selected, f_blues, f_merged, f_order, f_accepted, f_free, f_coin, f_worth, f_pool)
        )
      ) (
        some (((-3) : Int32), v_dag, v_orphans, v_pooled, v_places, f_orphan, f_past, f_score, f_selected, f_blues, f_merged, f_order, f_accepted, f_free, f_coin, f_worth, f_pool)
      )
    ) fun j28 =>
    mo_br (x1 ≤ 0) (
      j28
    ) (
      mo_rI f_hash 62 x1 fun v19 =>
      mo_br (v19 < 536870912) (
        j28
      ) (
        some (((-2) : Int32), v_dag, v_orphans, v_pooled, v_places, f_orphan, f_past, f_score, f_selected, f_blues, f_merged, f_order, f_accepted, f_free, f_coin, f_worth, f_pool)
      )
    )
  )
def m_mm_submit_L23 (v_pooled : Int32) (f_pool : Nat → Int32) (x1 : Int32) (bk23 : Int32 × Int32 → Option (Int32)) : Int32 × Int32 → Option (Int32)
  | (z23_2, z23_3) =>
    mo_br (v_pooled ≤ z23_3) (
      some z23_2
    ) (
      mo_jn (fun (s50_0 : Int32) =>
        bk23 (s50_0, z23_3 + 1)
      ) fun j50 =>
      mo_jn (
        j50 1
      ) fun j45 =>
      mo_br (z23_2 = 0) (
        mo_rI f_pool 8 z23_3 fun v40 =>
        mo_br (v40 = x1) (
          j45
        ) (
          j50 0
        )
      ) (
        j45
      )
    )
def m_mm_submit (v_limit : Int32) (v_made : Int32) (v_blocks : Int32) (v_dag : Int64) (v_pooled : Int32) (v_places : Int32) (f_accepted : Nat → Int32) (f_pool : Nat → Int32) (f_parents : Nat → Int32) (f_parent : Nat → Int32) (f_past : Nat → Int64) (f_score : Nat → Int32) (f_hash : Nat → Int32) (f_selected : Nat → Int32) (f_blues : Nat → Int64) (f_merged : Nat → Int32) (f_order : Nat → Int32) (f_free : Nat → Int32) (f_coin : Nat → Int32) (f_holds : Nat → Int32) (f_held : Nat → Int32) (f_inputs : Nat → Int32) (f_source : Nat → Int32) (f_index : Nat → Int32) (f_lock : Nat → Int32) (f_blockLock : Nat → Int32) (f_secret : Nat → Int32) (f_amount : Nat → Int32) (f_worth : Nat → Int32) (f_outputs : Nat → Int32) (x1 : Int32) : Option (Int32 × Int32 × Int32 × (Nat → Int32) × (Nat → Int32) × (Nat → Int64) × (Nat → Int32) × (Nat → Int32) × (Nat → Int64) × (Nat → Int32) × (Nat → Int32) × (Nat → Int32) × (Nat → Int32) × (Nat → Int32)) :=
  mo_br (x1 < 0) (
    some (((-1) : Int32), v_pooled, v_places, f_accepted, f_pool, f_past, f_score, f_selected, f_blues, f_merged, f_order, f_free, f_coin, f_worth)
  ) (
    mo_br (x1 < v_made) (
      mo_rI f_accepted 40 x1 fun v19 =>
      mo_bd (mo_lp (m_mm_submit_L23 v_pooled f_pool x1) 1000 (v19, 0)) fun y23_2 =>
      mo_br (y23_2 = 0) (
        mo_bd (m_mm_settle v_limit v_blocks v_dag v_pooled v_places f_parents f_parent f_past f_score f_hash f_selected f_blues f_merged f_order f_accepted f_free f_coin f_holds f_held f_inputs f_source f_index f_lock f_blockLock f_secret f_amount f_worth f_outputs f_pool) fun (r65_0, r65_1, r65_2, r65_3, r65_4, r65_5, r65_6, r65_7, r65_8, r65_9, r65_10, r65_11, r65_12) =>
        mo_bd (m_mm_fits r65_8 f_inputs f_source f_index r65_9 r65_10 f_lock f_blockLock f_secret f_amount r65_11 f_outputs x1) fun r70 =>
        mo_bd (m_mm_look v_limit v_blocks v_dag r65_1 f_parents f_parent r65_2 r65_3 f_hash r65_4 r65_5 r65_6 r65_7 r65_8 r65_9 r65_10 f_holds f_held f_inputs f_source f_index f_lock f_blockLock f_secret f_amount r65_11 f_outputs) fun (r75_0, r75_1, r75_2, r75_3, r75_4, r75_5, r75_6, r75_7, r75_8, r75_9, r75_10) =>
        mo_br (r70 = 0) (
          some (((-3) : Int32), r65_0, r75_0, r75_7, r65_12, r75_1, r75_2, r75_3, r75_4, r75_5, r75_6, r75_8, r75_9, r75_10)
        ) (
          mo_br (r65_0 = 8) (
            some (((-4) : Int32), r65_0, r75_0, r75_7, r65_12, r75_1, r75_2, r75_3, r75_4, r75_5, r75_6, r75_8, r75_9, r75_10)
          ) (
            mo_wI r65_12 8 r65_0 x1 fun g106 =>
            some ((0 : Int32), r65_0 + 1, r75_0, r75_7, g106, r75_1, r75_2, r75_3, r75_4, r75_5, r75_6, r75_8, r75_9, r75_10)
          )
        )
      ) (
        some (((-2) : Int32), v_pooled, v_places, f_accepted, f_pool, f_past, f_score, f_selected, f_blues, f_merged, f_order, f_free, f_coin, f_worth)
      )
    ) (
      some (((-1) : Int32), v_pooled, v_places, f_accepted, f_pool, f_past, f_score, f_selected, f_blues, f_merged, f_order, f_free, f_coin, f_worth)
    )
  )
def m_mm_template_L209 (f_pool : Nat → Int32) (g205 : Nat → Int32) (bk209 : Int32 × (Nat → Int32) → Option ((Nat → Int32))) : Int32 × (Nat → Int32) → Option ((Nat → Int32))
  | (z209_5, z209_f_held) =>
    mo_rI g205 62 61 fun v217 =>
    mo_br (v217 ≤ z209_5) (
      some z209_f_held
    ) (
      mo_rI f_pool 8 z209_5 fun v237 =>
      mo_wI z209_f_held 186 ((183 : Int32) + z209_5) v237 fun g238 =>
      bk209 (z209_5 + 1, g238)
    )
def m_mm_template_L47 (f_score : Nat → Int32) (f_hash : Nat → Int32) (z24_3 : Int64) (bk47 : Int32 × Int32 → Option (Int32)) : Int32 × Int32 → Option (Int32)
  | (z47_5, z47_6) =>
    mo_br (60 ≤ z47_6) (
      some z47_5
    ) (
      mo_bd (m_mm_in z24_3 z47_6) fun r57 =>
      mo_jn (fun (s118_0 : Int32) =>
        mo_jn (fun (s132_0 : Int32) =>
          bk47 (s132_0, z47_6 + 1)
        ) fun j132 =>
        mo_br (s118_0 = 0) (
          j132 z47_5
        ) (
          j132 z47_6
        )
      ) fun j118 =>
      mo_jn (
        j118 0
      ) fun j117 =>
      mo_br (r57 = 0) (
        j117
      ) (
        mo_jn (
          j118 1
        ) fun j113 =>
        mo_br (z47_5 < 0) (
          j113
        ) (
          mo_rI f_score 61 z47_6 fun v74 =>
          mo_rI f_score 61 z47_5 fun v81 =>
          mo_br (v81 < v74) (
            j113
          ) (
            mo_rI f_score 61 z47_6 fun v91 =>
            mo_rI f_score 61 z47_5 fun v98 =>
            mo_br (v91 = v98) (
              mo_bd (m_mm_earlier f_hash z47_6 z47_5) fun r107 =>
              mo_br (r107 = 0) (
                j117
              ) (
                j113
              )
            ) (
              j117
            )
          )
        )
      )
    )
def m_mm_template_L24 (f_score : Nat → Int32) (f_hash : Nat → Int32) (bk24 : Int64 × (Nat → Int32) × (Nat → Int32) → Option ((Nat → Int32) × (Nat → Int32))) : Int64 × (Nat → Int32) × (Nat → Int32) → Option ((Nat → Int32) × (Nat → Int32))
  | (z24_3, z24_f_parents, z24_f_parent) =>
    mo_br (z24_3 = 0) (
      some (z24_f_parents, z24_f_parent)
    ) (
      mo_rI z24_f_parents 62 61 fun v36 =>
      mo_br (4 ≤ v36) (
        some (z24_f_parents, z24_f_parent)
      ) (
        mo_bd (mo_lp (m_mm_template_L47 f_score f_hash z24_3) 1000 ((-1), 0)) fun y47_5 =>
        mo_rI z24_f_parents 62 61 fun v153 =>
        mo_wI z24_f_parent 248 ((244 : Int32) + v153) y47_5 fun g157 =>
        mo_rI z24_f_parents 62 61 fun v165 =>
        mo_wI z24_f_parents 62 61 (v165 + 1) fun g168 =>
        bk24 (z24_3 &&& (((1 : Int64) <<< (y47_5.toInt64 &&& 63)) ^^^ ((-1))), g168, g157)
      )
    )
def m_mm_template (v_blocks : Int32) (v_dag : Int64) (v_pooled : Int32) (f_parents : Nat → Int32) (f_parent : Nat → Int32) (f_score : Nat → Int32) (f_hash : Nat → Int32) (f_holds : Nat → Int32) (f_pool : Nat → Int32) (f_held : Nat → Int32) (f_blockLock : Nat → Int32) (f_id : Nat → Int32) (x1 : Int32) (x2 : Int32) : Option (Int32 × Int32 × (Nat → Int32) × (Nat → Int32) × (Nat → Int32) × (Nat → Int32) × (Nat → Int32) × (Nat → Int32)) :=
  mo_br (v_blocks = 60) (
    some (((-1) : Int32), v_blocks, f_parents, f_parent, f_hash, f_holds, f_held, f_blockLock)
  ) (
    mo_bd (m_mm_tips v_blocks v_dag f_parents f_parent) fun r12 =>
    mo_wI f_parents 62 61 0 fun g23 =>
    mo_bd (mo_lp (m_mm_template_L24 f_score f_hash) 1000 (r12, g23, f_parent)) fun (y24_f_parents, y24_f_parent) =>
    mo_jn (fun (s205_0 : Int32) =>
      mo_wI f_holds 62 61 s205_0 fun g205 =>
      mo_bd (mo_lp (m_mm_template_L209 f_pool g205) 1000 (0, f_held)) fun y209_f_held =>
      mo_bd (m_mm_build v_blocks y24_f_parents g205 y24_f_parent y209_f_held f_blockLock f_hash f_id 61 x1 x2) fun (r250, r250_0, r250_1, r250_2, r250_3, r250_4, r250_5, r250_6) =>
      some (r250, r250_0, r250_1, r250_3, r250_6, r250_2, r250_4, r250_5)
    ) fun j205 =>
    mo_br (3 ≤ v_pooled) (
      j205 3
    ) (
      j205 v_pooled
    )
  )
def m_mm_placeOf_L2 (v_places : Int32) (f_order : Nat → Int32) (x1 : Int32) (bk2 : Int32 → Option (Int32)) : Int32 → Option (Int32)
  | z2_2 =>
    mo_br (v_places ≤ z2_2) (
      some (((-1) : Int32))
    ) (
      mo_rI f_order 64 z2_2 fun v15 =>
      mo_br (v15 = x1) (
        some z2_2
      ) (
        bk2 (z2_2 + 1)
      )
    )
def m_mm_placeOf (v_places : Int32) (f_order : Nat → Int32) (x1 : Int32) : Option (Int32) :=
  mo_lp (m_mm_placeOf_L2 v_places f_order x1) 1000 0
def m_mm_block (v_blocks : Int32) (v_dag : Int64) (v_orphans : Int32) (v_places : Int32) (f_blues : Nat → Int64) (f_orphan : Nat → Int32) (f_hash : Nat → Int32) (f_order : Nat → Int32) (f_score : Nat → Int32) (f_selected : Nat → Int32) (f_past : Nat → Int64) (x1 : Int32) (x2 : Int32) : Option (Int32) :=
  mo_bd (m_mm_isBlock v_blocks x1) fun r2 =>
  mo_br (r2 = 0) (
    some (((-1) : Int32))
  ) (
    mo_br (x2 < 0) (
      some (((-1) : Int32))
    ) (
      mo_br (x2 ≤ 5) (
        mo_bd (m_mm_in v_dag x1) fun r24 =>
        mo_br (x2 = 0) (
          mo_br (r24 = 0) (
            mo_bd (m_mm_isOrphan v_orphans f_orphan x1) fun r60 =>
            mo_br (r60 = 0) (
              some ((0 : Int32))
            ) (
              some ((3 : Int32))
            )
          ) (
            mo_rL f_blues 61 60 fun v42 =>
            mo_bd (m_mm_in v42 x1) fun r44 =>
            mo_br (r44 = 0) (
              some ((1 : Int32))
            ) (
              some ((2 : Int32))
            )
          )
        ) (
          mo_br (x2 = 5) (
            mo_rI f_hash 62 x1 fun v82 =>
            some v82
          ) (
            mo_br (r24 = 0) (
              some (((-1) : Int32))
            ) (
              mo_br (x2 = 3) (
                mo_bd (m_mm_placeOf v_places f_order x1) fun r97 =>
                some r97
              ) (
                mo_br (x2 = 1) (
                  mo_rI f_score 61 x1 fun v111 =>
                  some v111
                ) (
                  mo_br (x2 = 2) (
                    mo_rI f_selected 61 x1 fun v125 =>
                    some v125
                  ) (
                    mo_br (x1 = 0) (
                      some ((0 : Int32))
                    ) (
                      mo_rL f_past 61 x1 fun v142 =>
                      mo_rI f_selected 61 x1 fun v152 =>
                      mo_rL f_past 61 v152 fun v153 =>
                      mo_bd (m_mm_many (v142 &&& (v153 ^^^ ((-1))))) fun r159 =>
                      some (r159 - 1)
                    )
                  )
                )
              )
            )
          )
        )
      ) (
        some (((-1) : Int32))
      )
    )
  )
def m_mm_order (v_places : Int32) (f_order : Nat → Int32) (x1 : Int32) : Option (Int32) :=
  mo_jn (
    some (((-1) : Int32))
  ) fun j12 =>
  mo_br (x1 < 0) (
    j12
  ) (
    mo_br (x1 < v_places) (
      mo_rI f_order 64 x1 fun v21 =>
      some v21
    ) (
      j12
    )
  )
def m_mm_unspent (v_made : Int32) (v_blocks : Int32) (f_free : Nat → Int32) (f_coin : Nat → Int32) (f_amount : Nat → Int32) (f_worth : Nat → Int32) (x1 : Int32) (x2 : Int32) : Option (Int32) :=
  mo_jn (fun (s22_0 : Int32) =>
    mo_jn (fun (s40_0 : Int32) =>
      mo_jn (
        mo_br (x2 < 0) (
          some (((-1) : Int32))
        ) (
          mo_br (x2 ≤ 1) (
            mo_bd (m_mm_there f_free f_coin x1 x2) fun r65 =>
            mo_br (r65 = 0) (
              some (((-1) : Int32))
            ) (
              mo_bd (m_mm_worthOf f_amount f_worth x1 x2) fun r74 =>
              some r74
            )
          ) (
            some (((-1) : Int32))
          )
        )
      ) fun j51 =>
      mo_br (s22_0 = 0) (
        mo_br (s40_0 = 0) (
          some (((-1) : Int32))
        ) (
          j51
        )
      ) (
        j51
      )
    ) fun j40 =>
    mo_jn (
      j40 0
    ) fun j39 =>
    mo_br (x1 < 0) (
      j39
    ) (
      mo_br (v_made ≤ x1) (
        j39
      ) (
        j40 1
      )
    )
  ) fun j22 =>
  mo_jn (
    j22 0
  ) fun j21 =>
  mo_br (x1 < 100) (
    j21
  ) (
    mo_br (v_blocks ≤ (x1 - 100)) (
      j21
    ) (
      j22 1
    )
  )
def m_mm_pool (v_pooled : Int32) (f_pool : Nat → Int32) (x1 : Int32) : Option (Int32) :=
  mo_jn (
    some (((-1) : Int32))
  ) fun j12 =>
  mo_br (x1 < 0) (
    j12
  ) (
    mo_br (x1 < v_pooled) (
      mo_rI f_pool 8 x1 fun v21 =>
      some v21
    ) (
      j12
    )
  )
def m_mm_wanted_L30 (f_orphan : Nat → Int32) (f_parents : Nat → Int32) (f_parent : Nat → Int32) (z4_3 : Int32) (z18_5 : Int32) (bk30 : Int32 × Int32 → Option (Int32)) : Int32 × Int32 → Option (Int32)
  | (z30_4, z30_6) =>
    mo_rI f_orphan 4 z18_5 fun v42 =>
    mo_rI f_parents 62 v42 fun v43 =>
    mo_br (v43 ≤ z30_6) (
      some z30_4
    ) (
      mo_jn (fun (s78_0 : Int32) =>
        bk30 (s78_0, z30_6 + 1)
      ) fun j78 =>
      mo_jn (
        j78 1
      ) fun j73 =>
      mo_br (z30_4 = 0) (
        mo_rI f_orphan 4 z18_5 fun v63 =>
        mo_rI f_parent 248 (((4 : Int32) * v63) + z30_6) fun v68 =>
        mo_br (v68 = z4_3) (
          j73
        ) (
          j78 0
        )
      ) (
        j73
      )
    )
def m_mm_wanted_L18 (v_orphans : Int32) (f_orphan : Nat → Int32) (f_parents : Nat → Int32) (f_parent : Nat → Int32) (z4_3 : Int32) (bk18 : Int32 × Int32 → Option (Int32)) : Int32 × Int32 → Option (Int32)
  | (z18_4, z18_5) =>
    mo_br (v_orphans ≤ z18_5) (
      some z18_4
    ) (
      mo_bd (mo_lp (m_mm_wanted_L30 f_orphan f_parents f_parent z4_3 z18_5) 1000 (z18_4, 0)) fun y30_4 =>
      bk18 (y30_4, z18_5 + 1)
    )
def m_mm_wanted_L4 (v_blocks : Int32) (v_dag : Int64) (v_orphans : Int32) (f_orphan : Nat → Int32) (f_parents : Nat → Int32) (f_parent : Nat → Int32) (x1 : Int32) (bk4 : Int32 × Int32 → Option (Int32)) : Int32 × Int32 → Option (Int32)
  | (z4_2, z4_3) =>
    mo_br (v_blocks ≤ z4_3) (
      some (((-1) : Int32))
    ) (
      mo_bd (mo_lp (m_mm_wanted_L18 v_orphans f_orphan f_parents f_parent z4_3) 1000 (0, 0)) fun y18_4 =>
      mo_jn (fun (s121_0 : Int32) =>
        mo_jn (
          mo_jn (fun (s147_0 : Int32) =>
            bk4 (s147_0, z4_3 + 1)
          ) fun j147 =>
          mo_br (s121_0 = 0) (
            j147 z4_2
          ) (
            j147 (z4_2 + 1)
          )
        ) fun j135 =>
        mo_br (s121_0 = 0) (
          j135
        ) (
          mo_br (z4_2 = x1) (
            some z4_3
          ) (
            j135
          )
        )
      ) fun j121 =>
      mo_jn (
        j121 0
      ) fun j120 =>
      mo_br (y18_4 = 0) (
        j120
      ) (
        mo_bd (m_mm_in v_dag z4_3) fun r102 =>
        mo_br (r102 = 0) (
          mo_bd (m_mm_isOrphan v_orphans f_orphan z4_3) fun r110 =>
          mo_br (r110 = 0) (
            j121 1
          ) (
            j120
          )
        ) (
          j120
        )
      )
    )
def m_mm_wanted (v_blocks : Int32) (v_dag : Int64) (v_orphans : Int32) (f_orphan : Nat → Int32) (f_parents : Nat → Int32) (f_parent : Nat → Int32) (x1 : Int32) : Option (Int32) :=
  mo_lp (m_mm_wanted_L4 v_blocks v_dag v_orphans f_orphan f_parents f_parent x1) 1000 (0, 0)
def m_mm_parentOf (v_blocks : Int32) (f_parents : Nat → Int32) (f_parent : Nat → Int32) (x1 : Int32) (x2 : Int32) : Option (Int32) :=
  mo_bd (m_mm_isBlock v_blocks x1) fun r2 =>
  mo_jn (
    some (((-1) : Int32))
  ) fun j22 =>
  mo_br (r2 = 0) (
    j22
  ) (
    mo_br (x2 < 0) (
      j22
    ) (
      mo_rI f_parents 62 x1 fun v18 =>
      mo_br (x2 < v18) (
        mo_rI f_parent 248 (((4 : Int32) * x1) + x2) fun v35 =>
        some v35
      ) (
        j22
      )
    )
  )
def m_mm_count_L4 (v_made : Int32) (f_accepted : Nat → Int32) (bk4 : Int32 × Int32 → Option (Int32)) : Int32 × Int32 → Option (Int32)
  | (z4_2, z4_3) =>
    mo_br (v_made ≤ z4_3) (
      some z4_2
    ) (
      mo_rI f_accepted 40 z4_3 fun v17 =>
      mo_jn (fun (s28_0 : Int32) =>
        bk4 (s28_0, z4_3 + 1)
      ) fun j28 =>
      mo_br (v17 = 0) (
        j28 z4_2
      ) (
        j28 (z4_2 + 1)
      )
    )
def m_mm_count (v_made : Int32) (v_blocks : Int32) (v_dag : Int64) (v_orphans : Int32) (v_pooled : Int32) (f_accepted : Nat → Int32) (f_parents : Nat → Int32) (f_parent : Nat → Int32) (f_score : Nat → Int32) (f_selected : Nat → Int32) (f_id : Nat → Int32) (x1 : Int32) : Option (Int32) :=
  mo_bd (mo_lp (m_mm_count_L4 v_made f_accepted) 1000 (0, 0)) fun y4_2 =>
  mo_br (4 ≤ x1) (
    mo_br (7 ≤ x1) (
      mo_br (x1 = 7) (
        mo_rI f_score 61 60 fun v139 =>
        some v139
      ) (
        mo_br (x1 = 8) (
          mo_rI f_selected 61 60 fun v155 =>
          some v155
        ) (
          mo_br (x1 = 9) (
            mo_br (v_made = 0) (
              some ((0 : Int32))
            ) (
              mo_rI f_id 41 (v_made - 1) fun v186 =>
              some v186
            )
          ) (
            some (((-1) : Int32))
          )
        )
      )
    ) (
      mo_br (x1 = 4) (
        some v_orphans
      ) (
        mo_br (x1 = 5) (
          some v_pooled
        ) (
          some y4_2
        )
      )
    )
  ) (
    mo_br (x1 = 0) (
      some v_made
    ) (
      mo_br (x1 = 1) (
        some v_blocks
      ) (
        mo_br (x1 = 2) (
          mo_bd (m_mm_many v_dag) fun r72 =>
          some r72
        ) (
          mo_br (x1 = 3) (
            mo_bd (m_mm_tips v_blocks v_dag f_parents f_parent) fun r84 =>
            mo_bd (m_mm_many r84) fun r87 =>
            some r87
          ) (
            some (((-1) : Int32))
          )
        )
      )
    )
  )
def m_mm_total_L63 (v_blocks : Int32) (f_coin : Nat → Int32) (f_worth : Nat → Int32) (bk63 : Int32 × Int32 → Option (Int32)) : Int32 × Int32 → Option (Int32)
  | (z63_1, z63_2) =>
    mo_br (v_blocks ≤ z63_2) (
      some z63_1
    ) (
      mo_rI f_coin 60 z63_2 fun v76 =>
      mo_jn (fun (s92_0 : Int32) =>
        bk63 (s92_0, z63_2 + 1)
      ) fun j92 =>
      mo_br (v76 = 0) (
        j92 z63_1
      ) (
        mo_rI f_worth 60 z63_2 fun v86 =>
        j92 (z63_1 + v86)
      )
    )
def m_mm_total_L14 (f_free : Nat → Int32) (f_amount : Nat → Int32) (z4_2 : Int32) (bk14 : Int32 × Int32 → Option (Int32)) : Int32 × Int32 → Option (Int32)
  | (z14_1, z14_3) =>
    mo_br (2 ≤ z14_3) (
      some z14_1
    ) (
      mo_rI f_free 80 (((2 : Int32) * z4_2) + z14_3) fun v28 =>
      mo_jn (fun (s48_0 : Int32) =>
        bk14 (s48_0, z14_3 + 1)
      ) fun j48 =>
      mo_br (v28 = 0) (
        j48 z14_1
      ) (
        mo_rI f_amount 82 (((2 : Int32) * z4_2) + z14_3) fun v42 =>
        j48 (z14_1 + v42)
      )
    )
def m_mm_total_L4 (v_made : Int32) (f_free : Nat → Int32) (f_amount : Nat → Int32) (bk4 : Int32 × Int32 → Option (Int32)) : Int32 × Int32 → Option (Int32)
  | (z4_1, z4_2) =>
    mo_br (v_made ≤ z4_2) (
      some z4_1
    ) (
      mo_bd (mo_lp (m_mm_total_L14 f_free f_amount z4_2) 1000 (z4_1, 0)) fun y14_1 =>
      bk4 (y14_1, z4_2 + 1)
    )
def m_mm_total (v_made : Int32) (v_blocks : Int32) (f_free : Nat → Int32) (f_amount : Nat → Int32) (f_coin : Nat → Int32) (f_worth : Nat → Int32) : Option (Int32) :=
  mo_bd (mo_lp (m_mm_total_L4 v_made f_free f_amount) 1000 (0, 0)) fun y4_1 =>
  mo_bd (mo_lp (m_mm_total_L63 v_blocks f_coin f_worth) 1000 (y4_1, 0)) fun y63_1 =>
  some y63_1
