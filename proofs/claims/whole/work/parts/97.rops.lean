/-! PURE: the reference's operations are those of 88. -/
section RO
variable {M : me_M} {x : Int32}
theorem rX_0 {a b c d e f : Int64} : mL (rn_put M 30077 a b c d e f) 16 6 30075 = mL M 16 6 30075 := by rw [rn_0, if_neg (by decide)]
theorem rX_1 {a b c d e f : Int64} : mL (rn_put M 30077 a b c d e f) 16 7 30075 = mL M 16 7 30075 := by rw [rn_1, if_neg (by decide)]
theorem rX_2 {a b c d e f : Int64} : mL (rn_put M 30077 a b c d e f) 16 8 30075 = mL M 16 8 30075 := by rw [rn_2, if_neg (by decide)]
theorem rX_3 {a b c d e f : Int64} : mL (rn_put M 30077 a b c d e f) 16 9 30075 = mL M 16 9 30075 := by rw [rn_3, if_neg (by decide)]
theorem rX_4 {a b c d e f : Int64} : mL (rn_put M 30077 a b c d e f) 16 10 30075 = mL M 16 10 30075 := by rw [rn_4, if_neg (by decide)]
theorem rX_5 {a b c d e f : Int64} : mL (rn_put M 30077 a b c d e f) 16 11 30075 = mL M 16 11 30075 := by rw [rn_5, if_neg (by decide)]
theorem rY_0 {a b c d e f : Int64} : mL (rn_put M 30077 a b c d e f) 16 6 30076 = mL M 16 6 30076 := by rw [rn_0, if_neg (by decide)]
theorem rY_1 {a b c d e f : Int64} : mL (rn_put M 30077 a b c d e f) 16 7 30076 = mL M 16 7 30076 := by rw [rn_1, if_neg (by decide)]
theorem rY_2 {a b c d e f : Int64} : mL (rn_put M 30077 a b c d e f) 16 8 30076 = mL M 16 8 30076 := by rw [rn_2, if_neg (by decide)]
theorem rY_3 {a b c d e f : Int64} : mL (rn_put M 30077 a b c d e f) 16 9 30076 = mL M 16 9 30076 := by rw [rn_3, if_neg (by decide)]
theorem rY_4 {a b c d e f : Int64} : mL (rn_put M 30077 a b c d e f) 16 10 30076 = mL M 16 10 30076 := by rw [rn_4, if_neg (by decide)]
theorem rY_5 {a b c d e f : Int64} : mL (rn_put M 30077 a b c d e f) 16 11 30076 = mL M 16 11 30076 := by rw [rn_5, if_neg (by decide)]
theorem rR_0 {a b c d e f : Int64} : mL (rn_put M 30077 a b c d e f) 16 6 30077 = a := by rw [rn_0, if_pos rfl]
theorem rR_1 {a b c d e f : Int64} : mL (rn_put M 30077 a b c d e f) 16 7 30077 = b := by rw [rn_1, if_pos rfl]
theorem rR_2 {a b c d e f : Int64} : mL (rn_put M 30077 a b c d e f) 16 8 30077 = c := by rw [rn_2, if_pos rfl]
theorem rR_3 {a b c d e f : Int64} : mL (rn_put M 30077 a b c d e f) 16 9 30077 = d := by rw [rn_3, if_pos rfl]
theorem rR_4 {a b c d e f : Int64} : mL (rn_put M 30077 a b c d e f) 16 10 30077 = e := by rw [rn_4, if_pos rfl]
theorem rR_5 {a b c d e f : Int64} : mL (rn_put M 30077 a b c d e f) 16 11 30077 = f := by rw [rn_5, if_pos rfl]
theorem gX {β : Type} {z : Option β} : gd (30075 < 30081) z = z := if_pos (by decide)
theorem gY {β : Type} {z : Option β} : gd (30076 < 30081) z = z := if_pos (by decide)
theorem gR {β : Type} {z : Option β} : gd (30077 < 30081) z = z := if_pos (by decide)
theorem gRi {β : Type} {z : Option β} : gd (¬ ((30077 : Int32) < 0 ∨ 30081 ≤ (30077 : Int32).toNatClampNeg)) z = z := if_pos (by decide)
theorem gYi {β : Type} {z : Option β} : gd (¬ ((30076 : Int32) < 0 ∨ 30081 ≤ (30076 : Int32).toNatClampNeg)) z = z := if_pos (by decide)
theorem gRj {β : Type} {z : Option β} : gd (¬ ((30077 : Int32) < 0 ∨ 30081 ≤ 30077)) z = z := if_pos (by decide)
theorem gYj {β : Type} {z : Option β} : gd (¬ ((30076 : Int32) < 0 ∨ 30081 ≤ 30076)) z = z := if_pos (by decide)
theorem tR : (30077 : Int32).toNatClampNeg = 30077 := rfl
theorem tY : (30076 : Int32).toNatClampNeg = 30076 := rfl
theorem i32_63 {z : Int32} : z ≤ 63 ↔ z < 64 := by
  rw [Int32.le_iff_toInt_le, Int32.lt_iff_toInt_lt]
  show z.toInt ≤ 63 ↔ z.toInt < 64
  omega
theorem and_63 (z : Int32) : ∃ k, k < 64 ∧ z &&& 63 = nI k := by
  refine ⟨(z &&& 63).toBitVec.toNat, ?_, ?_⟩
  · rw [Int32.toBitVec_and, BitVec.toNat_and]
    exact Nat.lt_of_le_of_lt Nat.and_le_right (by decide)
  · apply Int32.toBitVec_inj.mp
    apply BitVec.eq_of_toNat_eq
    exact (Nat.mod_eq_of_lt (z &&& 63).toBitVec.isLt).symm
theorem fn_fin_any : fn_fin fn_any = fn_any := by decide +kernel
section ROB
variable {a b c d e f v w : Int64}
theorem pa_256 (h : ps_M M) {s0 : Int32} : f_M_add_b256 0 (rn_put M 30077 a b c d e f) v w s0 = if s0 = 0 then some (rn_put M 30077 a b c d v w) else some (rn_put M 30077 a b c d e f) := by
  unfold f_M_add_b256
  simp only [bd_some, b2_some, st_eq, rs_52 h, rs_53 h, rs_54 h, rs_55 h, rs_56 h, rs_57 h, rz_16_6 h, rz_16_7 h, rz_16_8 h, rz_16_9 h, rz_16_10 h, rz_16_11 h, gX, gY, gR, rn_R, rn_Z, pR_L, pZ_L, if_true, rX_0, rY_0, rR_0, rn_w0, rX_1, rY_1, rR_1, rn_w1, rX_2, rY_2, rR_2, rn_w2, rX_3, rY_3, rR_3, rn_w3, rX_4, rY_4, rR_4, rn_w4, rX_5, rY_5, rR_5, rn_w5]
theorem pa_157 (h : ps_M M) : f_M_add_b157 0 (rn_put M 30077 a b c d e f) = if ((mL M 16 10 30075) ^^^ ((mL M 16 10 30075) + (mL M 16 10 30076))) &&& ((mL M 16 10 30076) ^^^ ((mL M 16 10 30075) + (mL M 16 10 30076))) < 0 then some (rn_put M 30077 a b c d e f) else if ((mL M 16 11 30075) ^^^ ((mL M 16 11 30075) + (mL M 16 11 30076))) &&& ((mL M 16 11 30076) ^^^ ((mL M 16 11 30075) + (mL M 16 11 30076))) < 0 then some (rn_put M 30077 a b c d e f) else some (rn_put M 30077 a b c d ((mL M 16 10 30075) + (mL M 16 10 30076)) ((mL M 16 11 30075) + (mL M 16 11 30076))) := by
  unfold f_M_add_b157 f_M_add_b251
  simp only [bd_some, b2_some, st_eq, rs_52 h, rs_53 h, rs_54 h, rs_55 h, rs_56 h, rs_57 h, rz_16_6 h, rz_16_7 h, rz_16_8 h, rz_16_9 h, rz_16_10 h, rz_16_11 h, gX, gY, gR, rn_R, rn_Z, pR_L, pZ_L, if_true, rX_0, rY_0, rR_0, rn_w0, rX_1, rY_1, rR_1, rn_w1, rX_2, rY_2, rR_2, rn_w2, rX_3, rY_3, rR_3, rn_w3, rX_4, rY_4, rR_4, rn_w4, rX_5, rY_5, rR_5, rn_w5, pa_256 h]
  rw [if_neg (show ¬ (1 : Int32) = 0 from by decide)]
theorem pu_265 (h : ps_M M) {s0 : Int32} : f_M_subtract_b265 0 (rn_put M 30077 a b c d e f) v w s0 = if s0 = 0 then some (rn_put M 30077 a b c d v w) else some (rn_put M 30077 a b c d e f) := by
  unfold f_M_subtract_b265
  simp only [bd_some, b2_some, st_eq, rs_52 h, rs_53 h, rs_54 h, rs_55 h, rs_56 h, rs_57 h, rz_16_6 h, rz_16_7 h, rz_16_8 h, rz_16_9 h, rz_16_10 h, rz_16_11 h, gX, gY, gR, rn_R, rn_Z, pR_L, pZ_L, if_true, rX_0, rY_0, rR_0, rn_w0, rX_1, rY_1, rR_1, rn_w1, rX_2, rY_2, rR_2, rn_w2, rX_3, rY_3, rR_3, rn_w3, rX_4, rY_4, rR_4, rn_w4, rX_5, rY_5, rR_5, rn_w5]
theorem pu_154 (h : ps_M M) : f_M_subtract_b154 0 (rn_put M 30077 a b c d e f) = if ((mL M 16 10 30075) ^^^ (mL M 16 11 30076)) &&& ((mL M 16 10 30075) ^^^ ((mL M 16 10 30075) - (mL M 16 11 30076))) < 0 then some (rn_put M 30077 a b c d e f) else if ((mL M 16 11 30075) ^^^ (mL M 16 10 30076)) &&& ((mL M 16 11 30075) ^^^ ((mL M 16 11 30075) - (mL M 16 10 30076))) < 0 then some (rn_put M 30077 a b c d e f) else some (rn_put M 30077 a b c d ((mL M 16 10 30075) - (mL M 16 11 30076)) ((mL M 16 11 30075) - (mL M 16 10 30076))) := by
  unfold f_M_subtract_b154 f_M_subtract_b260
  simp only [bd_some, b2_some, st_eq, rs_52 h, rs_53 h, rs_54 h, rs_55 h, rs_56 h, rs_57 h, rz_16_6 h, rz_16_7 h, rz_16_8 h, rz_16_9 h, rz_16_10 h, rz_16_11 h, gX, gY, gR, rn_R, rn_Z, pR_L, pZ_L, if_true, rX_0, rY_0, rR_0, rn_w0, rX_1, rY_1, rR_1, rn_w1, rX_2, rY_2, rR_2, rn_w2, rX_3, rY_3, rR_3, rn_w3, rX_4, rY_4, rR_4, rn_w4, rX_5, rY_5, rR_5, rn_w5, pu_265 h]
  rw [if_neg (show ¬ (1 : Int32) = 0 from by decide)]
theorem pu_83 (h : ps_M M) : f_M_multiply_b83 0 (rn_put M 30077 a b c d e f) v 30077 7 = if fn_lt 4294967295 (mL M 16 9 30075) then some (rn_put M 30077 a v c d e f) else if fn_lt 4294967295 (mL M 16 9 30076) then some (rn_put M 30077 a v c d e f) else some (rn_put M 30077 a v ((mL M 16 8 30075) * (mL M 16 8 30076)) ((mL M 16 9 30075) * (mL M 16 9 30076)) e f) := by
  unfold f_M_multiply_b83
  simp only [bd_some, b2_some, st_eq, rs_52 h, rs_53 h, rs_54 h, rs_55 h, rs_56 h, rs_57 h, rz_16_6 h, rz_16_7 h, rz_16_8 h, rz_16_9 h, rz_16_10 h, rz_16_11 h, gX, gY, gR, rn_R, rn_Z, pR_L, pZ_L, if_true, rX_0, rY_0, rR_0, rn_w0, rX_1, rY_1, rR_1, rn_w1, rX_2, rY_2, rR_2, rn_w2, rX_3, rY_3, rR_3, rn_w3, rX_4, rY_4, rR_4, rn_w4, rX_5, rY_5, rR_5, rn_w5, pm_below, gRj, tR]
  by_cases g1 : fn_lt 4294967295 (mL M 16 9 30075)
  · rw [if_pos g1, if_pos g1, if_neg (by decide)]
  · rw [if_neg g1, if_neg g1, if_pos rfl]
    by_cases g2 : fn_lt 4294967295 (mL M 16 9 30076)
    · rw [if_pos g2, if_pos g2, if_neg (by decide)]
    · rw [if_neg g2, if_neg g2, if_pos rfl]
end ROB
theorem pm_add (h : ps_M M) : f_M_add (rn_put M 30077 0 (-1) 0 (-1) (-9223372036854775808) 9223372036854775807) 0 = some (rt M 30077 (fn_add (mL M 16 6 30075) (mL M 16 7 30075) (mL M 16 8 30075) (mL M 16 9 30075) (mL M 16 10 30075) (mL M 16 11 30075) (mL M 16 6 30076) (mL M 16 7 30076) (mL M 16 8 30076) (mL M 16 9 30076) (mL M 16 10 30076) (mL M 16 11 30076))) := by
  unfold f_M_add
  simp only [bd_some, b2_some, st_eq, rs_52 h, rs_53 h, rs_54 h, rs_55 h, rs_56 h, rs_57 h, rz_16_6 h, rz_16_7 h, rz_16_8 h, rz_16_9 h, rz_16_10 h, rz_16_11 h, gX, gY, gR, rn_R, rn_Z, pR_L, pZ_L, if_true, rX_0, rY_0, rR_0, rn_w0, rX_1, rY_1, rR_1, rn_w1, rX_2, rY_2, rR_2, rn_w2, rX_3, rY_3, rR_3, rn_w3, rX_4, rY_4, rR_4, rn_w4, rX_5, rY_5, rR_5, rn_w5, pm_below, pa_157 h]
  unfold rt fn_add fn_au
  by_cases g1 : fn_lt ((mL M 16 9 30075) + (mL M 16 9 30076)) (mL M 16 9 30075) <;> by_cases g2 : ((mL M 16 10 30075) ^^^ ((mL M 16 10 30075) + (mL M 16 10 30076))) &&& ((mL M 16 10 30076) ^^^ ((mL M 16 10 30075) + (mL M 16 10 30076))) < 0 <;> by_cases g3 : ((mL M 16 11 30075) ^^^ ((mL M 16 11 30075) + (mL M 16 11 30076))) &&& ((mL M 16 11 30076) ^^^ ((mL M 16 11 30075) + (mL M 16 11 30076))) < 0 <;> simp only [g1, g2, g3, if_true, if_false] <;> rfl
theorem pm_sub (h : ps_M M) : f_M_subtract (rn_put M 30077 0 (-1) 0 (-1) (-9223372036854775808) 9223372036854775807) 0 = some (rt M 30077 (fn_sub (mL M 16 6 30075) (mL M 16 7 30075) (mL M 16 8 30075) (mL M 16 9 30075) (mL M 16 10 30075) (mL M 16 11 30075) (mL M 16 6 30076) (mL M 16 7 30076) (mL M 16 8 30076) (mL M 16 9 30076) (mL M 16 10 30076) (mL M 16 11 30076))) := by
  unfold f_M_subtract
  simp only [bd_some, b2_some, st_eq, rs_52 h, rs_53 h, rs_54 h, rs_55 h, rs_56 h, rs_57 h, rz_16_6 h, rz_16_7 h, rz_16_8 h, rz_16_9 h, rz_16_10 h, rz_16_11 h, gX, gY, gR, rn_R, rn_Z, pR_L, pZ_L, if_true, rX_0, rY_0, rR_0, rn_w0, rX_1, rY_1, rR_1, rn_w1, rX_2, rY_2, rR_2, rn_w2, rX_3, rY_3, rR_3, rn_w3, rX_4, rY_4, rR_4, rn_w4, rX_5, rY_5, rR_5, rn_w5, pm_below, pu_154 h]
  unfold rt fn_sub fn_su
  by_cases g1 : fn_lt (mL M 16 8 30075) (mL M 16 9 30076) <;> by_cases g2 : ((mL M 16 10 30075) ^^^ (mL M 16 11 30076)) &&& ((mL M 16 10 30075) ^^^ ((mL M 16 10 30075) - (mL M 16 11 30076))) < 0 <;> by_cases g3 : ((mL M 16 11 30075) ^^^ (mL M 16 10 30076)) &&& ((mL M 16 11 30075) ^^^ ((mL M 16 11 30075) - (mL M 16 10 30076))) < 0 <;> simp only [g1, g2, g3, if_true, if_false] <;> rfl
theorem pm_mul (h : ps_M M) : f_M_multiply (rn_put M 30077 0 (-1) 0 (-1) (-9223372036854775808) 9223372036854775807) 0 = some (rt M 30077 (fn_mul (mL M 16 6 30075) (mL M 16 7 30075) (mL M 16 8 30075) (mL M 16 9 30075) (mL M 16 6 30076) (mL M 16 7 30076) (mL M 16 8 30076) (mL M 16 9 30076))) := by
  have hp : ps_M (rn_put M 30077 0 (-1) 0 (-1) (-9223372036854775808) 9223372036854775807) := ps_put h
  have hxX : rg (rn_put M 30077 0 (-1) 0 (-1) (-9223372036854775808) 9223372036854775807) 30075 = rg M 30075 := rg_L (x := fn_any) (by decide)
  have hxY : rg (rn_put M 30077 0 (-1) 0 (-1) (-9223372036854775808) 9223372036854775807) 30076 = rg M 30076 := rg_L (x := fn_any) (by decide)
  have k1 := pm_isExact hp ok_X
  have k2 := pm_isExact hp ok_Y
  have k3 := pm_zeros hp ok_X
  have k4 := pm_zeros hp ok_Y
  have k5 : ∀ v, f_M_setExact (rn_put M 30077 0 (-1) 0 (-1) (-9223372036854775808) 9223372036854775807) 0 30077 v = some (rt M 30077 (fn_ex v)) := by
    intro v
    rw [pm_exact hp ok_R]
    exact congrArg some (rt_two (x := fn_any))
  rw [hxX] at k1 k3
  rw [hxY] at k2 k4
  unfold f_M_multiply f_M_multiply_b45
  simp only [k1, k2, k3, k4, k5, bd_some, b2_some, st_eq, rs_52 h, rs_53 h, rs_54 h, rs_55 h, rs_56 h, rs_57 h, rz_16_6 h, rz_16_7 h, rz_16_8 h, rz_16_9 h, rz_16_10 h, rz_16_11 h, gX, gY, gR, rn_R, rn_Z, pR_L, pZ_L, if_true, rX_0, rY_0, rR_0, rn_w0, rX_1, rY_1, rR_1, rn_w1, rX_2, rY_2, rR_2, rn_w2, rX_3, rY_3, rR_3, rn_w3, rX_4, rY_4, rR_4, rn_w4, rX_5, rY_5, rR_5, rn_w5, pu_83 h, i32_63]
  unfold fn_mul fn_mul1 rt rg
  simp only []
  generalize fn_lz (mL M 16 6 30075) (mL M 16 7 30075) + fn_lz (mL M 16 6 30076) (mL M 16 7 30076) = z
  by_cases g1 : (mL M 16 7 30075) = 0 <;> by_cases g2 : (mL M 16 7 30076) = 0 <;> by_cases g3 : fn_lt 4294967295 (mL M 16 9 30075) <;> by_cases g4 : fn_lt 4294967295 (mL M 16 9 30076) <;> by_cases g5 : z < 64 <;> simp only [g1, g2, g3, g4, g5, if_true, if_false] <;> rfl
theorem pd_k2 (h : ps_M M) : f_M_isExact (rn_put M 30077 0 (-1) 0 (-1) (-9223372036854775808) 9223372036854775807) 0 30076 = some ((rn_put M 30077 0 (-1) 0 (-1) (-9223372036854775808) 9223372036854775807), if (mL M 16 7 30076) = 0 then 1 else 0) := by
  have k2 := pm_isExact (M := (rn_put M 30077 0 (-1) 0 (-1) (-9223372036854775808) 9223372036854775807)) (ps_put h) ok_Y
  rw [show rg (rn_put M 30077 0 (-1) 0 (-1) (-9223372036854775808) 9223372036854775807) 30076 = rg M 30076 from rg_L (x := fn_any) (by decide)] at k2
  exact k2
theorem pd_k5 (h : ps_M M) {v : Int64} : f_M_setExact (rn_put M 30077 0 (-1) 0 (-1) (-9223372036854775808) 9223372036854775807) 0 30077 v = some (rt M 30077 (fn_ex v)) := by
  rw [pm_exact (ps_put h) ok_R]
  exact congrArg some (rt_two (x := fn_any))
theorem pd_a0 (h : ps_M M) {a b c d e f : Int64} (q : Int64 → Int64 → Option Int64) (q2 : Int64 → Int64) (hq : ∀ v, q v (mL M 16 6 30076) = some (q2 v)) : (bd (mR (rn_put M 30077 a b c d e f) 1 0 55) (fun (j18 : Nat) => gd (30075 < mZ (rn_put M 30077 a b c d e f) 16 j18) (bd (q (mL (rn_put M 30077 a b c d e f) 16 j18 30075) (mL (rn_put M 30077 a b c d e f) 16 6 30076)) (fun (r21 : Int64) => gd (30077 < mZ (rn_put M 30077 a b c d e f) 16 j18) (st (wL (rn_put M 30077 a b c d e f) 16 j18 30077 r21) (fun (M23 : me_M) => some M23)))))) = some (rn_put M 30077 a b c (q2 (mL M 16 9 30075)) e f) := by
  simp only [bd_some, st_eq, rs_55 h, rz_16_9 h, gX, gR, rn_R, rn_Z, rX_3, rY_0, rn_w3, hq]
theorem pd_a (h : ps_M M) (g1 : (mL M 16 7 30076) = 0) (g2 : ¬ (mL M 16 6 30076) = 0) : f_M_divide_b34 0 (rn_put M 30077 0 (-1) 0 (-1) (-9223372036854775808) 9223372036854775807) = some (rn_put M 30077 0 (-1) (fn_quo (mL M 16 8 30075) (mL M 16 6 30076)) (fn_quo (mL M 16 9 30075) (mL M 16 6 30076)) (-9223372036854775808) 9223372036854775807) := by
  have hq : ∀ v, f_M_quotient v (mL M 16 6 30076) = some (fn_quo v (mL M 16 6 30076)) := fun v => pm_quo g2
  have z := pd_a0 (a := 0) (b := -1) (c := fn_quo (mL M 16 8 30075) (mL M 16 6 30076)) (d := -1) (e := -9223372036854775808) (f := 9223372036854775807) h f_M_quotient (fun v => fn_quo v (mL M 16 6 30076)) hq
  unfold f_M_divide_b34
  rw [pd_k2 h, b2_some, if_pos g1, if_neg (by decide), rn_R, rn_Z, rs_54 h, bd_some, rz_16_8 h, gX, rs_52 h, bd_some, rz_16_6 h, gY, rX_2, rY_0, hq, bd_some, gR, st_eq, rn_w2]
  exact z
theorem pd_b (h : ps_M M) (g1 : ¬ (mL M 16 7 30076) = 0) : f_M_divide_b34 0 (rn_put M 30077 0 (-1) 0 (-1) (-9223372036854775808) 9223372036854775807) = some (rn_put M 30077 0 (-1) 0 (mL M 16 9 30075) (-9223372036854775808) 9223372036854775807) := by
  unfold f_M_divide_b34
  rw [pd_k2 h, b2_some, if_neg g1, if_pos rfl]
  simp only [bd_some, b2_some, st_eq, rs_52 h, rs_53 h, rs_54 h, rs_55 h, rs_56 h, rs_57 h, rz_16_6 h, rz_16_7 h, rz_16_8 h, rz_16_9 h, rz_16_10 h, rz_16_11 h, gX, gY, gR, rn_R, rn_Z, pR_L, pZ_L, if_true, rX_0, rY_0, rR_0, rn_w0, rX_1, rY_1, rR_1, rn_w1, rX_2, rY_2, rR_2, rn_w2, rX_3, rY_3, rR_3, rn_w3, rX_4, rY_4, rR_4, rn_w4, rX_5, rY_5, rR_5, rn_w5]
theorem pm_div (h : ps_M M) : f_M_divide (rn_put M 30077 0 (-1) 0 (-1) (-9223372036854775808) 9223372036854775807) 0 = some (rt M 30077 (fn_div (mL M 16 8 30075) (mL M 16 9 30075) (mL M 16 6 30076) (mL M 16 7 30076))) := by
  unfold f_M_divide fn_div
  rw [pd_k2 h, b2_some]
  by_cases g1 : (mL M 16 7 30076) = 0
  · rw [if_pos g1, if_neg (by decide), if_pos g1]
    simp only [bd_some, b2_some, st_eq, rs_52 h, rs_53 h, rs_54 h, rs_55 h, rs_56 h, rs_57 h, rz_16_6 h, rz_16_7 h, rz_16_8 h, rz_16_9 h, rz_16_10 h, rz_16_11 h, gX, gY, gR, rn_R, rn_Z, pR_L, pZ_L, if_true, rX_0, rY_0, rR_0, rn_w0, rX_1, rY_1, rR_1, rn_w1, rX_2, rY_2, rR_2, rn_w2, rX_3, rY_3, rR_3, rn_w3, rX_4, rY_4, rR_4, rn_w4, rX_5, rY_5, rR_5, rn_w5, pd_k5 h]
    by_cases g2 : (mL M 16 6 30076) = 0
    · rw [if_pos g2, if_pos g2]
    · rw [if_neg g2, if_neg g2]
      exact pd_a h g1 g2
  · rw [if_neg g1, if_pos rfl, if_neg g1]
    exact pd_b h g1
theorem pm_rest (h : ps_M M) : f_M_rest (rn_put M 30077 0 (-1) 0 (-1) (-9223372036854775808) 9223372036854775807) 0 = some (rt M 30077 (fn_rest (mL M 16 6 30075) (mL M 16 7 30075) (mL M 16 8 30075) (mL M 16 9 30075) (mL M 16 10 30075) (mL M 16 11 30075) (mL M 16 6 30076) (mL M 16 7 30076))) := by
  have hp : ps_M (rn_put M 30077 0 (-1) 0 (-1) (-9223372036854775808) 9223372036854775807) := ps_put h
  have hxX : rg (rn_put M 30077 0 (-1) 0 (-1) (-9223372036854775808) 9223372036854775807) 30075 = rg M 30075 := rg_L (x := fn_any) (by decide)
  have hxY : rg (rn_put M 30077 0 (-1) 0 (-1) (-9223372036854775808) 9223372036854775807) 30076 = rg M 30076 := rg_L (x := fn_any) (by decide)
  have k2 := pm_isExact hp ok_Y
  have k5 : f_M_copyNumber (rn_put M 30077 0 (-1) 0 (-1) (-9223372036854775808) 9223372036854775807) 0 30075 30077 = some (rt M 30077 (rg M 30075)) := by
    rw [pm_copy hp ok_X ok_R, hxX]
    exact congrArg some (rt_two (x := fn_any))
  rw [hxY] at k2
  have b45 : f_M_rest_b45 0 (rn_put M 30077 0 (-1) 0 (-1) (-9223372036854775808) 9223372036854775807) = some (rt M 30077 (rg M 30075)) := by
    unfold f_M_rest_b45 f_M_rest_b50
    rw [if_neg (by decide), k5, bd_some]
  have b49 : f_M_rest_b49 0 (rn_put M 30077 0 (-1) 0 (-1) (-9223372036854775808) 9223372036854775807) = some (rt M 30077 (0, -1, 0, (if (mL M 16 7 30076) = 0 then (mL M 16 6 30076) - 1 else (mL M 16 9 30075)), -9223372036854775808, 9223372036854775807)) := by
    unfold f_M_rest_b49 f_M_rest_b50
    rw [if_pos rfl]
    simp only [bd_some, b2_some, st_eq, rs_52 h, rs_53 h, rs_54 h, rs_55 h, rs_56 h, rs_57 h, rz_16_6 h, rz_16_7 h, rz_16_8 h, rz_16_9 h, rz_16_10 h, rz_16_11 h, gX, gY, gR, rn_R, rn_Z, pR_L, pZ_L, if_true, rX_0, rY_0, rR_0, rn_w0, rX_1, rY_1, rR_1, rn_w1, rX_2, rY_2, rR_2, rn_w2, rX_3, rY_3, rR_3, rn_w3, rX_4, rY_4, rR_4, rn_w4, rX_5, rY_5, rR_5, rn_w5, k2]
    rw [show (rg M 30076).2.1 = (mL M 16 7 30076) from rfl]
    by_cases g1 : (mL M 16 7 30076) = 0
    · rw [if_pos g1, if_neg (by decide), if_pos g1]
      rfl
    · rw [if_neg g1, if_pos rfl, if_neg g1]
      rfl
  unfold f_M_rest fn_rest
  rw [k2, b2_some, b45, b49, show (rg M 30076).2.1 = (mL M 16 7 30076) from rfl]
  by_cases g1 : (mL M 16 7 30076) = 0
  · rw [if_pos g1, if_neg (by decide), if_pos g1, if_pos g1]
    simp only [bd_some, b2_some, st_eq, rs_52 h, rs_53 h, rs_54 h, rs_55 h, rs_56 h, rs_57 h, rz_16_6 h, rz_16_7 h, rz_16_8 h, rz_16_9 h, rz_16_10 h, rz_16_11 h, gX, gY, gR, rn_R, rn_Z, pR_L, pZ_L, if_true, rX_0, rY_0, rR_0, rn_w0, rX_1, rY_1, rR_1, rn_w1, rX_2, rY_2, rR_2, rn_w2, rX_3, rY_3, rR_3, rn_w3, rX_4, rY_4, rR_4, rn_w4, rX_5, rY_5, rR_5, rn_w5, pm_below]
    by_cases g2 : (mL M 16 6 30076) = 0
    · rw [if_pos g2, if_pos g2]
      rfl
    · rw [if_neg g2, if_neg g2]
      by_cases g3 : fn_lt (mL M 16 9 30075) (mL M 16 6 30076)
      · rw [if_pos g3, if_pos g3, if_neg (by decide)]
        rfl
      · rw [if_neg g3, if_neg g3, if_pos rfl]
  · rw [if_neg g1, if_pos rfl, if_neg g1, if_neg g1]
theorem fn_max0 {v : Int64} : fn_max 0 v = v := by
  unfold fn_max
  by_cases h : fn_lt 0 v
  · rw [if_pos h]
  · rw [if_neg h]
    apply un_inj
    rw [fn_lt_un] at h
    have : un 0 = 0 := rfl
    omega
theorem fn_minm {v : Int64} : fn_min (-1) v = v := by
  unfold fn_min
  by_cases h : fn_lt v (-1)
  · rw [if_pos h]
  · rw [if_neg h]
    apply un_inj
    rw [fn_lt_un] at h
    have e : un (-1) = 18446744073709551615 := by decide
    have := un_lt v
    omega
theorem pm_and (h : ps_M M) : f_M_logic (rn_put M 30077 0 (-1) 0 (-1) (-9223372036854775808) 9223372036854775807) 0 5 = some (rt M 30077 (fn_and (mL M 16 6 30075) (mL M 16 7 30075) (mL M 16 9 30075) (mL M 16 6 30076) (mL M 16 7 30076) (mL M 16 9 30076))) := by
  unfold f_M_logic rt fn_and
  rw [if_pos rfl]
  simp only [bd_some, b2_some, st_eq, rs_52 h, rs_53 h, rs_54 h, rs_55 h, rs_56 h, rs_57 h, rz_16_6 h, rz_16_7 h, rz_16_8 h, rz_16_9 h, rz_16_10 h, rz_16_11 h, gX, gY, gR, rn_R, rn_Z, pR_L, pZ_L, if_true, rX_0, rY_0, rR_0, rn_w0, rX_1, rY_1, rR_1, rn_w1, rX_2, rY_2, rR_2, rn_w2, rX_3, rY_3, rR_3, rn_w3, rX_4, rY_4, rR_4, rn_w4, rX_5, rY_5, rR_5, rn_w5, pm_lesser, fn_minm]
theorem pm_or (h : ps_M M) : f_M_logic (rn_put M 30077 0 (-1) 0 (-1) (-9223372036854775808) 9223372036854775807) 0 6 = some (rn_put M 30077 ((mL M 16 6 30075) ||| (mL M 16 6 30076)) (((mL M 16 7 30075) ||| (mL M 16 7 30076)) &&& (((mL M 16 6 30075) ||| (mL M 16 6 30076)) ^^^ -1)) (fn_max (mL M 16 8 30075) (mL M 16 8 30076)) (-1) (-9223372036854775808) 9223372036854775807) := by
  unfold f_M_logic
  rw [if_neg (by decide), if_pos rfl]
  simp only [bd_some, b2_some, st_eq, rs_52 h, rs_53 h, rs_54 h, rs_55 h, rs_56 h, rs_57 h, rz_16_6 h, rz_16_7 h, rz_16_8 h, rz_16_9 h, rz_16_10 h, rz_16_11 h, gX, gY, gR, rn_R, rn_Z, pR_L, pZ_L, if_true, rX_0, rY_0, rR_0, rn_w0, rX_1, rY_1, rR_1, rn_w1, rX_2, rY_2, rR_2, rn_w2, rX_3, rY_3, rR_3, rn_w3, rX_4, rY_4, rR_4, rn_w4, rX_5, rY_5, rR_5, rn_w5, pm_greater]
theorem pm_xor (h : ps_M M) : f_M_logic (rn_put M 30077 0 (-1) 0 (-1) (-9223372036854775808) 9223372036854775807) 0 7 = some (rn_put M 30077 (((mL M 16 6 30075) ^^^ (mL M 16 6 30076)) &&& (((mL M 16 7 30075) ||| (mL M 16 7 30076)) ^^^ -1)) ((mL M 16 7 30075) ||| (mL M 16 7 30076)) 0 (-1) (-9223372036854775808) 9223372036854775807) := by
  unfold f_M_logic
  rw [if_neg (by decide), if_neg (by decide)]
  simp only [bd_some, b2_some, st_eq, rs_52 h, rs_53 h, rs_54 h, rs_55 h, rs_56 h, rs_57 h, rz_16_6 h, rz_16_7 h, rz_16_8 h, rz_16_9 h, rz_16_10 h, rz_16_11 h, gX, gY, gR, rn_R, rn_Z, pR_L, pZ_L, if_true, rX_0, rY_0, rR_0, rn_w0, rX_1, rY_1, rR_1, rn_w1, rX_2, rY_2, rR_2, rn_w2, rX_3, rY_3, rR_3, rn_w3, rX_4, rY_4, rR_4, rn_w4, rX_5, rY_5, rR_5, rn_w5]
/-- a shift that loses nothing -/
theorem shl_ok {g : Int64} {k : Nat} (hk : k < 64) (h0 : ¬ k = 0) : jlushr g (64 - nI k) = 0 ↔ jlushr (jlshl g (nI k)) (nI k) = g := by
  have e : (64 : Int32) - nI k = nI (64 - k) := by
    have : ∀ k, k < 64 → (64 : Int32) - nI k = nI (64 - k) := by decide +kernel
    exact this k hk
  rw [e]
  have L : ∀ i, i < 64 → bt (jlushr (jlshl g (nI k)) (nI k)) i = (decide (k + i < 64) && bt g i) := by
    intro i hi
    rw [bt_ush hk, bt_shl hk]
    have : ¬ k + i < k := by omega
    have e2 : k + i - k = i := by omega
    simp [this, e2]
  constructor
  · intro h
    apply bt_ext
    intro i hi
    rw [L i hi]
    by_cases g1 : k + i < 64
    · simp [g1]
    · have q := congrArg (fun z => bt z (i - (64 - k))) h
      simp only [bt_ush (show 64 - k < 64 by omega), bt_0] at q
      rw [show 64 - k + (i - (64 - k)) = i by omega] at q
      simp [g1, q]
  · intro h
    rw [bt_zero]
    intro i hi
    rw [bt_ush (by omega)]
    by_cases g1 : 64 - k + i < 64
    · have q := congrArg (fun z => bt z (64 - k + i)) h
      simp only [L _ g1] at q
      have : ¬ k + (64 - k + i) < 64 := by omega
      simp [this] at q
      exact q
    · exact bt_ge (by omega)
theorem jl0 {g : Int64} : jlushr (jlshl g 0) 0 = g := by
  apply bt_ext
  intro i hi
  rw [show (0 : Int32) = nI 0 from rfl, bt_ush (by decide), bt_shl (by decide)]
  simp
  intro _
  omega
theorem ph_64 (h : ps_M M) {a b c d e f : Int64} {s : Int32} : f_M_shift_b64 0 s (rn_put M 30077 a b c d e f) = some (rn_put M 30077 a b (jlshl (mL M 16 8 30075) s) (jlshl (mL M 16 9 30075) s) e f) := by
  unfold f_M_shift_b64
  simp only [bd_some, b2_some, st_eq, rs_52 h, rs_53 h, rs_54 h, rs_55 h, rs_56 h, rs_57 h, rz_16_6 h, rz_16_7 h, rz_16_8 h, rz_16_9 h, rz_16_10 h, rz_16_11 h, gX, gY, gR, rn_R, rn_Z, pR_L, pZ_L, if_true, rX_0, rY_0, rR_0, rn_w0, rX_1, rY_1, rR_1, rn_w1, rX_2, rY_2, rR_2, rn_w2, rX_3, rY_3, rR_3, rn_w3, rX_4, rY_4, rR_4, rn_w4, rX_5, rY_5, rR_5, rn_w5]
theorem pm_shift (h : ps_M M) {op s : Int32} {k : Nat} (hk : k < 64) (hs : s = nI k) (o1 : Int64) (ho : fn_by o1 = s) : f_M_shift (rn_put M 30077 0 (-1) 0 (-1) (-9223372036854775808) 9223372036854775807) 0 op s = some (rt M 30077 (fn_shift (mL M 16 6 30075) (mL M 16 7 30075) (mL M 16 8 30075) (mL M 16 9 30075) (mL M 16 10 30075) (mL M 16 11 30075) o1 0 op)) := by
  unfold f_M_shift fn_shift
  rw [ho, if_pos rfl]
  by_cases g1 : op = 8
  · rw [if_pos g1, if_pos g1]
    simp only [bd_some, b2_some, st_eq, rs_52 h, rs_53 h, rs_54 h, rs_55 h, rs_56 h, rs_57 h, rz_16_6 h, rz_16_7 h, rz_16_8 h, rz_16_9 h, rz_16_10 h, rz_16_11 h, gX, gY, gR, rn_R, rn_Z, pR_L, pZ_L, if_true, rX_0, rY_0, rR_0, rn_w0, rX_1, rY_1, rR_1, rn_w1, rX_2, rY_2, rR_2, rn_w2, rX_3, rY_3, rR_3, rn_w3, rX_4, rY_4, rR_4, rn_w4, rX_5, rY_5, rR_5, rn_w5, ph_64 h]
    by_cases g2 : s = 0
    · rw [if_pos g2, if_pos (show fn_shu (fn_shl (mL M 16 9 30075) s) s = (mL M 16 9 30075) by rw [g2]; exact jl0), if_pos (show fn_shu (fn_shl (mL M 16 9 30075) s) s = (mL M 16 9 30075) by rw [g2]; exact jl0)]
      rfl
    · rw [if_neg g2]
      have k0 : ¬ k = 0 := fun z => g2 (by rw [hs, z]; rfl)
      have hq := shl_ok (g := (mL M 16 9 30075)) hk k0
      rw [← hs] at hq
      by_cases g3 : jlushr (mL M 16 9 30075) (64 - s) = 0
      · rw [if_pos g3, if_pos (show fn_shu (fn_shl (mL M 16 9 30075) s) s = (mL M 16 9 30075) from hq.mp g3), if_pos (show fn_shu (fn_shl (mL M 16 9 30075) s) s = (mL M 16 9 30075) from hq.mp g3)]
        rfl
      · rw [if_neg g3, if_neg (show ¬ fn_shu (fn_shl (mL M 16 9 30075) s) s = (mL M 16 9 30075) from fun z => g3 (hq.mpr z)), if_neg (show ¬ fn_shu (fn_shl (mL M 16 9 30075) s) s = (mL M 16 9 30075) from fun z => g3 (hq.mpr z))]
        rfl
  · rw [if_neg g1, if_neg g1]
    by_cases g2 : op = 9
    · rw [if_pos g2, if_pos g2]
      simp only [bd_some, b2_some, st_eq, rs_52 h, rs_53 h, rs_54 h, rs_55 h, rs_56 h, rs_57 h, rz_16_6 h, rz_16_7 h, rz_16_8 h, rz_16_9 h, rz_16_10 h, rz_16_11 h, gX, gY, gR, rn_R, rn_Z, pR_L, pZ_L, if_true, rX_0, rY_0, rR_0, rn_w0, rX_1, rY_1, rR_1, rn_w1, rX_2, rY_2, rR_2, rn_w2, rX_3, rY_3, rR_3, rn_w3, rX_4, rY_4, rR_4, rn_w4, rX_5, rY_5, rR_5, rn_w5]
      rfl
    · rw [if_neg g2, if_neg g2]
      simp only [bd_some, b2_some, st_eq, rs_52 h, rs_53 h, rs_54 h, rs_55 h, rs_56 h, rs_57 h, rz_16_6 h, rz_16_7 h, rz_16_8 h, rz_16_9 h, rz_16_10 h, rz_16_11 h, gX, gY, gR, rn_R, rn_Z, pR_L, pZ_L, if_true, rX_0, rY_0, rR_0, rn_w0, rX_1, rY_1, rR_1, rn_w1, rX_2, rY_2, rR_2, rn_w2, rX_3, rY_3, rR_3, rn_w3, rX_4, rY_4, rR_4, rn_w4, rX_5, rY_5, rR_5, rn_w5]
      rfl
theorem bt_255 {i : Nat} (h : i < 64) : bt 255 i = decide (i < 8) := by
  have : ∀ i, i < 64 → bt 255 i = decide (i < 8) := by decide +kernel
  exact this i h
theorem sw_eq {v : Int64} {k : Nat} (h : k < 8) : jlshr v (8 * nI k) &&& 255 = jlushr v (8 * nI k) &&& 255 := by
  have e : ∀ k, k < 8 → (8 : Int32) * nI k = nI (8 * k) := by decide
  rw [e k h]
  apply bt_ext
  intro i hi
  rw [bt_and, bt_and, bt_255 hi, bt_shr (by omega) hi, bt_ush (by omega)]
  by_cases g : i < 8
  · rw [if_pos (by omega)]
  · simp [g]
theorem pm_swap_l (h : ps_M M) {n : Nat} (hn : n ≤ 8) : ∀ (k i fu : Nat), i + k = n → k < fu → f_M_swap_l15 0 (nI n) fu (rn_put M 30077 0 (-1) 0 (-1) (-9223372036854775808) 9223372036854775807) (fn_swap (mL M 16 6 30075) i) (nI i) = some (rt M 30077 (fn_ex (fn_swap (mL M 16 6 30075) n))) := by
  have hp : ps_M (rn_put M 30077 0 (-1) 0 (-1) (-9223372036854775808) 9223372036854775807) := ps_put h
  intro k
  induction k with
  | zero =>
    intro i fu hi hf
    obtain ⟨f2, rfl⟩ : ∃ f2, fu = f2 + 1 := ⟨fu - 1, by omega⟩
    obtain rfl : i = n := by omega
    rw [f_M_swap_l15, if_pos (Int32.le_refl _), pm_exact hp ok_R, bd_some]
    exact congrArg some (rt_two (x := fn_any))
  | succ k ih =>
    intro i fu hi hf
    obtain ⟨f2, rfl⟩ : ∃ f2, fu = f2 + 1 := ⟨fu - 1, by omega⟩
    rw [f_M_swap_l15, if_neg (nI_ge (by omega) (by omega))]
    simp only [bd_some, b2_some, st_eq, rs_52 h, rs_53 h, rs_54 h, rs_55 h, rs_56 h, rs_57 h, rz_16_6 h, rz_16_7 h, rz_16_8 h, rz_16_9 h, rz_16_10 h, rz_16_11 h, gX, gY, gR, rn_R, rn_Z, pR_L, pZ_L, if_true, rX_0, rY_0, rR_0, rn_w0, rX_1, rY_1, rR_1, rn_w1, rX_2, rY_2, rR_2, rn_w2, rX_3, rY_3, rR_3, rn_w3, rX_4, rY_4, rR_4, rn_w4, rX_5, rY_5, rR_5, rn_w5]
    rw [sw_eq (show i < 8 by omega), nI_s]
    exact ih (i + 1) f2 (by omega) (by omega)
theorem pm_bytes (h : ps_M M) : f_M_bytesOf (rn_put M 30077 0 (-1) 0 (-1) (-9223372036854775808) 9223372036854775807) 0 30076 = some ((rn_put M 30077 0 (-1) 0 (-1) (-9223372036854775808) 9223372036854775807), if (mL M 16 7 30076) = 0 ∧ (mL M 16 6 30076) = 2 then 2 else if (mL M 16 7 30076) = 0 ∧ (mL M 16 6 30076) = 4 then 4 else 8) := by
  have hp : ps_M (rn_put M 30077 0 (-1) 0 (-1) (-9223372036854775808) 9223372036854775807) := ps_put h
  have hxY : rg (rn_put M 30077 0 (-1) 0 (-1) (-9223372036854775808) 9223372036854775807) 30076 = rg M 30076 := rg_L (x := fn_any) (by decide)
  have k2 := pm_isExact hp ok_Y
  rw [hxY] at k2
  unfold f_M_bytesOf
  rw [k2, b2_some]
  simp only [bd_some, b2_some, st_eq, rs_52 h, rs_53 h, rs_54 h, rs_55 h, rs_56 h, rs_57 h, rz_16_6 h, rz_16_7 h, rz_16_8 h, rz_16_9 h, rz_16_10 h, rz_16_11 h, gX, gY, gR, rn_R, rn_Z, pR_L, pZ_L, if_true, rX_0, rY_0, rR_0, rn_w0, rX_1, rY_1, rR_1, rn_w1, rX_2, rY_2, rR_2, rn_w2, rX_3, rY_3, rR_3, rn_w3, rX_4, rY_4, rR_4, rn_w4, rX_5, rY_5, rR_5, rn_w5, gYj, tY]
  rw [show (rg M 30076).2.1 = (mL M 16 7 30076) from rfl]
  by_cases g1 : (mL M 16 7 30076) = 0
  · rw [if_pos g1, if_neg (by decide)]
    by_cases g2 : (mL M 16 6 30076) = 2
    · rw [if_pos g2, if_pos ⟨g1, g2⟩, g2]
      rfl
    · rw [if_neg g2, if_neg (show ¬ ((mL M 16 7 30076) = 0 ∧ (mL M 16 6 30076) = 2) from fun z => g2 z.2)]
      by_cases g3 : (mL M 16 6 30076) = 4
      · rw [if_pos g3, if_pos ⟨g1, g3⟩, g3]
        rfl
      · rw [if_neg g3, if_neg (show ¬ ((mL M 16 7 30076) = 0 ∧ (mL M 16 6 30076) = 4) from fun z => g3 z.2)]
  · rw [if_neg g1, if_pos rfl, if_neg (show ¬ ((mL M 16 7 30076) = 0 ∧ (mL M 16 6 30076) = 2) from fun z => g1 z.1), if_neg (show ¬ ((mL M 16 7 30076) = 0 ∧ (mL M 16 6 30076) = 4) from fun z => g1 z.1)]
theorem pm_swap (h : ps_M M) {n : Nat} (hn : n = 2 ∨ n = 4 ∨ n = 8) : f_M_swap (rn_put M 30077 0 (-1) 0 (-1) (-9223372036854775808) 9223372036854775807) 0 (nI n) = some (rt M 30077 (if (mL M 16 7 30075) = 0 then fn_ex (fn_swap (mL M 16 6 30075) n) else if n = 2 then (0, -1, 0, 65535, -9223372036854775808, 9223372036854775807) else if n = 4 then (0, -1, 0, 4294967295, -9223372036854775808, 9223372036854775807) else fn_any)) := by
  have hp : ps_M (rn_put M 30077 0 (-1) 0 (-1) (-9223372036854775808) 9223372036854775807) := ps_put h
  have hxX : rg (rn_put M 30077 0 (-1) 0 (-1) (-9223372036854775808) 9223372036854775807) 30075 = rg M 30075 := rg_L (x := fn_any) (by decide)
  have k1 := pm_isExact hp ok_X
  rw [hxX] at k1
  unfold f_M_swap
  rw [k1, b2_some, show (rg M 30075).2.1 = (mL M 16 7 30075) from rfl]
  by_cases g1 : (mL M 16 7 30075) = 0
  · rw [if_pos g1, if_neg (by decide), if_pos g1]
    exact pm_swap_l h (by omega) n 0 fuel (by omega) (by unfold fuel; omega)
  · rw [if_neg g1, if_pos rfl, if_neg g1]
    rcases hn with rfl | rfl | rfl
    · rw [if_neg (by decide)]
      unfold f_M_top
      rw [if_neg (by decide), if_neg (by decide)]
      simp only [bd_some, b2_some, st_eq, rs_52 h, rs_53 h, rs_54 h, rs_55 h, rs_56 h, rs_57 h, rz_16_6 h, rz_16_7 h, rz_16_8 h, rz_16_9 h, rz_16_10 h, rz_16_11 h, gX, gY, gR, rn_R, rn_Z, pR_L, pZ_L, if_true, rX_0, rY_0, rR_0, rn_w0, rX_1, rY_1, rR_1, rn_w1, rX_2, rY_2, rR_2, rn_w2, rX_3, rY_3, rR_3, rn_w3, rX_4, rY_4, rR_4, rn_w4, rX_5, rY_5, rR_5, rn_w5]
      rfl
    · rw [if_neg (by decide)]
      unfold f_M_top
      rw [if_neg (by decide), if_pos (by decide)]
      simp only [bd_some, b2_some, st_eq, rs_52 h, rs_53 h, rs_54 h, rs_55 h, rs_56 h, rs_57 h, rz_16_6 h, rz_16_7 h, rz_16_8 h, rz_16_9 h, rz_16_10 h, rz_16_11 h, gX, gY, gR, rn_R, rn_Z, pR_L, pZ_L, if_true, rX_0, rY_0, rR_0, rn_w0, rX_1, rY_1, rR_1, rn_w1, rX_2, rY_2, rR_2, rn_w2, rX_3, rY_3, rR_3, rn_w3, rX_4, rY_4, rR_4, rn_w4, rX_5, rY_5, rR_5, rn_w5]
      rfl
    · rw [if_pos (by decide)]
      rfl
end RO
