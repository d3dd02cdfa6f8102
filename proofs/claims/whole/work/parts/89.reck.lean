/-! PURE: the class's operations on numbers are those of 88. -/
def pn_t (M : me_M) (j : Nat) (x : fn_N) : me_M := pn_put M j x.1 x.2.1 x.2.2.1 x.2.2.2.1 x.2.2.2.2.1 x.2.2.2.2.2
section PR
variable {M : me_M} {j0 j1 j2 jo : Nat}
theorem pf_bits {M : me_M} {j : Nat} {a b c d e f x y : Int64} : f_Num_bits (pn_put M j a b c d e f) j x y = some (pn_put M j x y c d e f) := by
  unfold f_Num_bits
  rw [st_eq, pn_w0, st_eq, pn_w1]
theorem pf_range {M : me_M} {j : Nat} {a b c d e f x y : Int64} : f_Num_range (pn_put M j a b c d e f) j x y = some (pn_put M j a b x y e f) := by
  unfold f_Num_range
  rw [st_eq, pn_w2, st_eq, pn_w3]
theorem pf_isExact0 {M : me_M} {j : Nat} : f_Num_isExact0 M j = some (M, if mL M 11 j 1 = 0 then 1 else 0) := by
  unfold f_Num_isExact0
  split <;> rfl
theorem pf_isExact1 {M : me_M} {j : Nat} {x : Int64} : f_Num_isExact1 M j x = some (M, if mL M 11 j 1 = 0 ∧ mL M 11 j 0 = x then 1 else 0) := by
  unfold f_Num_isExact1
  by_cases h : mL M 11 j 1 = 0 <;> by_cases g : mL M 11 j 0 = x <;> simp [h, g]
theorem pf_isAbove {M : me_M} {j : Nat} {x : Int64} : f_Num_isAbove M j x = some (M, if fn_lt x (mL M 11 j 3) then 1 else 0) := by
  unfold f_Num_isAbove
  by_cases h : fn_lt x (mL M 11 j 3)
  · rw [if_pos h, if_pos h]
  · rw [if_neg h, if_neg h]
theorem pf_bc (x : Int64) : f_Long_bitCount x = some (fn_bc x) := rfl
theorem pf_lz {M : me_M} {j : Nat} : f_Num_lowestZeros M j = some (M, fn_lz (mL M 11 j 0) (mL M 11 j 1)) := rfl
theorem pf_quo (x b : Int64) : f_Reckoner_quotient x b = some (fn_quo x b) := by
  unfold f_Reckoner_quotient fn_quo
  by_cases h1 : b = 0
  · rw [if_pos h1, if_pos h1]
  · rw [if_neg h1, if_neg h1]
    by_cases h2 : b < 0
    · rw [if_pos h2, if_pos h2]
      by_cases h3 : fn_lt x b
      · rw [if_pos h3, if_pos h3]
      · rw [if_neg h3, if_neg h3]
    · rw [if_neg h2, if_neg h2]
      by_cases h3 : x < 0
      · rw [if_pos h3, if_pos h3, gd_pos h1, st_eq, st_eq]
        by_cases h4 : fn_lt (x - fn_half x b * b) b
        · rw [if_pos h4]
          exact if_pos h4
        · rw [if_neg h4]
          exact if_neg h4
      · rw [if_neg h3, if_neg h3, gd_pos h1]
theorem pf_ite1 {P : Prop} [Decidable P] : ((if P then (1 : Int32) else 0) = 0) ↔ ¬ P := by
  by_cases h : P <;> simp [h]
theorem pf_add (ho : mR M 8 j0 2 = some jo) (h1 : ¬ j1 = jo) (h2 : ¬ j2 = jo) : f_Reckoner_add (pn_put M jo 0 (-1) 0 (-1) (-9223372036854775808) 9223372036854775807) j0 j1 j2 = some (pn_t M jo (fn_add (mL M 11 j1 0) (mL M 11 j1 1) (mL M 11 j1 2) (mL M 11 j1 3) (mL M 11 j1 4) (mL M 11 j1 5) (mL M 11 j2 0) (mL M 11 j2 1) (mL M 11 j2 2) (mL M 11 j2 3) (mL M 11 j2 4) (mL M 11 j2 5))) := by
  unfold f_Reckoner_add f_Reckoner_add_b96 f_Reckoner_add_b143 f_Reckoner_add_b170 pn_t fn_add fn_au
  simp only [st_eq, pn_R, ho, bd_some, pf_bits, pf_below, pn_L h1, pn_L h2, pf_range, pn_w4, pn_w5]
  by_cases g1 : fn_lt (mL M 11 j1 3 + mL M 11 j2 3) (mL M 11 j1 3) <;> by_cases g2 : (mL M 11 j1 4 ^^^ (mL M 11 j1 4 + mL M 11 j2 4)) &&& (mL M 11 j2 4 ^^^ (mL M 11 j1 4 + mL M 11 j2 4)) < 0 <;> by_cases g3 : (mL M 11 j1 5 ^^^ (mL M 11 j1 5 + mL M 11 j2 5)) &&& (mL M 11 j2 5 ^^^ (mL M 11 j1 5 + mL M 11 j2 5)) < 0 <;> simp [g1, g2, g3, pn_L h1, pn_L h2]
theorem pf_sub (ho : mR M 8 j0 2 = some jo) (h1 : ¬ j1 = jo) (h2 : ¬ j2 = jo) : f_Reckoner_subtract (pn_put M jo 0 (-1) 0 (-1) (-9223372036854775808) 9223372036854775807) j0 j1 j2 = some (pn_t M jo (fn_sub (mL M 11 j1 0) (mL M 11 j1 1) (mL M 11 j1 2) (mL M 11 j1 3) (mL M 11 j1 4) (mL M 11 j1 5) (mL M 11 j2 0) (mL M 11 j2 1) (mL M 11 j2 2) (mL M 11 j2 3) (mL M 11 j2 4) (mL M 11 j2 5))) := by
  unfold f_Reckoner_subtract f_Reckoner_subtract_b91 f_Reckoner_subtract_b140 f_Reckoner_subtract_b169 pn_t fn_sub fn_su
  simp only [st_eq, pn_R, ho, bd_some, pf_bits, pf_below, pn_L h1, pn_L h2, pf_range, pn_w4, pn_w5]
  by_cases g1 : fn_lt (mL M 11 j1 2) (mL M 11 j2 3) <;> by_cases g2 : (mL M 11 j1 4 ^^^ mL M 11 j2 5) &&& (mL M 11 j1 4 ^^^ (mL M 11 j1 4 - mL M 11 j2 5)) < 0 <;> by_cases g3 : (mL M 11 j1 5 ^^^ mL M 11 j2 4) &&& (mL M 11 j1 5 ^^^ (mL M 11 j1 5 - mL M 11 j2 4)) < 0 <;> simp [g1, g2, g3, pn_L h1, pn_L h2]
theorem pf_mul (ho : mR M 8 j0 2 = some jo) (h1 : ¬ j1 = jo) (h2 : ¬ j2 = jo) : f_Reckoner_multiply (pn_put M jo 0 (-1) 0 (-1) (-9223372036854775808) 9223372036854775807) j0 j1 j2 = some (pn_t M jo (fn_mul (mL M 11 j1 0) (mL M 11 j1 1) (mL M 11 j1 2) (mL M 11 j1 3) (mL M 11 j2 0) (mL M 11 j2 1) (mL M 11 j2 2) (mL M 11 j2 3))) := by
  unfold f_Reckoner_multiply f_Reckoner_multiply_b31 f_Reckoner_multiply_b61 pn_t fn_mul fn_mul1
  simp only [pf_isExact0, b2_some, pf_lz, st_eq, pn_R, ho, bd_some, pn_L h1, pn_L h2, pf_bits, pf_isAbove, pf_range, pf_Num_exact, pf_ite1]
  generalize fn_lz (mL M 11 j1 0) (mL M 11 j1 1) + fn_lz (mL M 11 j2 0) (mL M 11 j2 1) = z
  by_cases g1 : mL M 11 j1 1 = 0 <;> by_cases g2 : mL M 11 j2 1 = 0 <;> by_cases g3 : fn_lt 4294967295 (mL M 11 j1 3) <;> by_cases g4 : fn_lt 4294967295 (mL M 11 j2 3) <;> by_cases g5 : z < 64 <;> simp [g1, g2, g3, g4, g5, pn_L h1, pn_L h2, pn_two, jlshl]
theorem pf_div (ho : mR M 8 j0 2 = some jo) (h1 : ¬ j1 = jo) (h2 : ¬ j2 = jo) : f_Reckoner_divide (pn_put M jo 0 (-1) 0 (-1) (-9223372036854775808) 9223372036854775807) j0 j1 j2 = some (pn_t M jo (fn_div (mL M 11 j1 2) (mL M 11 j1 3) (mL M 11 j2 0) (mL M 11 j2 1))) := by
  unfold f_Reckoner_divide pn_t fn_div
  simp only [pf_isExact0, b2_some, pf_quo, st_eq, pn_R, ho, bd_some, pn_L h1, pn_L h2, pf_range, pf_Num_exact, pf_ite1]
  by_cases g1 : mL M 11 j2 1 = 0 <;> by_cases g2 : mL M 11 j2 0 = 0 <;> simp [g1, g2, pn_two]
theorem pf_rest (ho : mR M 8 j0 2 = some jo) (h1 : ¬ j1 = jo) (h2 : ¬ j2 = jo) : f_Reckoner_rest (pn_put M jo 0 (-1) 0 (-1) (-9223372036854775808) 9223372036854775807) j0 j1 j2 = some (pn_t M jo (fn_rest (mL M 11 j1 0) (mL M 11 j1 1) (mL M 11 j1 2) (mL M 11 j1 3) (mL M 11 j1 4) (mL M 11 j1 5) (mL M 11 j2 0) (mL M 11 j2 1))) := by
  unfold f_Reckoner_rest pn_t fn_rest
  simp only [pf_isExact0, b2_some, pf_below, st_eq, pn_R, ho, bd_some, pn_L h1, pn_L h2, pf_range, pf_Num_copy h1, pf_ite1]
  by_cases g1 : mL M 11 j2 1 = 0 <;> by_cases g2 : mL M 11 j2 0 = 0 <;> by_cases g3 : fn_lt (mL M 11 j1 3) (mL M 11 j2 0) <;> simp [g1, g2, g3, pn_two]
theorem pf_and (ho : mR M 8 j0 2 = some jo) (h1 : ¬ j1 = jo) (h2 : ¬ j2 = jo) {a b c d e f : Int64} : f_Reckoner_and (pn_put M jo a b c d e f) j0 j1 j2 = some (pn_put M jo (mL M 11 j1 0 &&& mL M 11 j2 0) (((mL M 11 j1 0 ||| mL M 11 j1 1) &&& (mL M 11 j2 0 ||| mL M 11 j2 1)) &&& ((mL M 11 j1 0 &&& mL M 11 j2 0) ^^^ -1)) c (fn_min (fn_min d (mL M 11 j1 3)) (mL M 11 j2 3)) e f) := by
  unfold f_Reckoner_and
  simp only [st_eq, pn_R, ho, bd_some, pn_L h1, pn_L h2, pf_bits, pf_lower]
theorem pf_swapped_l {x : Int64} {n : Nat} (hn : n ≤ 8) (k : Nat) : ∀ (i fu : Nat), i + k = n → k < fu → f_Reckoner_swapped_l5 x (nI n) fu (fn_swap x i) (nI i) = some (fn_swap x n) := by
  induction k with
  | zero =>
    intro i fu hi hf
    obtain ⟨f2, rfl⟩ : ∃ f2, fu = f2 + 1 := ⟨fu - 1, by omega⟩
    obtain rfl : i = n := by omega
    rw [f_Reckoner_swapped_l5, if_pos (Int32.le_refl _)]
  | succ k ih =>
    intro i fu hi hf
    obtain ⟨f2, rfl⟩ : ∃ f2, fu = f2 + 1 := ⟨fu - 1, by omega⟩
    rw [f_Reckoner_swapped_l5, if_neg (nI_ge (by omega) (by omega)), st_eq]
    have e : nI i + 1 = nI (i + 1) := by
      unfold nI
      rw [Int32.ofNat_add]
      rfl
    rw [e]
    exact ih (i + 1) f2 (by omega) (by omega)
theorem pf_swapped {x : Int64} {n : Nat} (hn : n ≤ 8) : f_Reckoner_swapped x (nI n) = some (fn_swap x n) := pf_swapped_l hn n 0 fuel (by omega) (by unfold fuel; omega)
theorem pf_swap2 {x : Int64} : f_Reckoner_swapped x 2 = some (fn_swap x 2) := pf_swapped (n := 2) (by decide)
theorem pf_swap4 {x : Int64} : f_Reckoner_swapped x 4 = some (fn_swap x 4) := pf_swapped (n := 4) (by decide)
theorem pf_swap8 {x : Int64} : f_Reckoner_swapped x 8 = some (fn_swap x 8) := pf_swapped (n := 8) (by decide)
theorem pf_swap (ho : mR M 8 j0 2 = some jo) (h1 : ¬ j1 = jo) (h2 : ¬ j2 = jo) : f_Reckoner_swap (pn_put M jo 0 (-1) 0 (-1) (-9223372036854775808) 9223372036854775807) j0 j1 j2 = some (pn_t M jo (fn_swp (mL M 11 j1 0) (mL M 11 j1 1) (mL M 11 j2 0) (mL M 11 j2 1))) := by
  unfold f_Reckoner_swap f_Reckoner_swap_b30 pn_t fn_swp
  simp only [pf_isExact0, pf_isExact1, b2_some, st_eq, pn_R, ho, bd_some, pn_L h1, pn_L h2, pf_range, pf_Num_exact, pf_ite1, pf_swap2, pf_swap4, pf_swap8, pn_two]
  by_cases g1 : mL M 11 j2 1 = 0 ∧ mL M 11 j2 0 = 2
  · by_cases g3 : mL M 11 j1 1 = 0 <;> simp [g1, g3] <;> rfl
  · by_cases g2 : mL M 11 j2 1 = 0 ∧ mL M 11 j2 0 = 4
    · by_cases g3 : mL M 11 j1 1 = 0 <;> simp [g2, g3] <;> rfl
    · by_cases g3 : mL M 11 j1 1 = 0 <;> simp [g1, g2, g3]
theorem pf_shift (ho : mR M 8 j0 2 = some jo) (h1 : ¬ j1 = jo) (h2 : ¬ j2 = jo) {op : Int32} : f_Reckoner_shift (pn_put M jo 0 (-1) 0 (-1) (-9223372036854775808) 9223372036854775807) j0 op j1 j2 = some (pn_t M jo (fn_shift (mL M 11 j1 0) (mL M 11 j1 1) (mL M 11 j1 2) (mL M 11 j1 3) (mL M 11 j1 4) (mL M 11 j1 5) (mL M 11 j2 0) (mL M 11 j2 1) op)) := by
  unfold f_Reckoner_shift pn_t fn_shift fn_by
  simp only [pf_isExact0, b2_some, st_eq, pn_R, ho, bd_some, pn_L h1, pn_L h2, pf_range, pf_bits, pf_ite1, jlushr, jlshl, jlshr, pn_w4, pn_w5]
  generalize (mL M 11 j2 0).toInt32 &&& 63 = k
  by_cases g1 : mL M 11 j2 1 = 0
  · rw [if_neg (fun z => z g1), if_pos g1]
    by_cases g2 : op = 8
    · rw [if_pos g2, if_pos g2]
      by_cases g3 : fn_shu (fn_shl (mL M 11 j1 3) k) k = mL M 11 j1 3
      · rw [if_pos g3, if_pos g3, if_pos g3]
      · rw [if_neg g3, if_neg g3, if_neg g3]
    · rw [if_neg g2, if_neg g2]
      by_cases g3 : op = 9
      · rw [if_pos g3, if_pos g3]
      · rw [if_neg g3, if_neg g3]
  · rw [if_pos g1, if_neg g1]
end PR
