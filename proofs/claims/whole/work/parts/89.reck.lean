/-! PURE: the class's operations on numbers are those of 88. -/
def pn_t (M : me_M) (j : Nat) (x : fn_N) : me_M := pn_put M j x.1 x.2.1 x.2.2.1 x.2.2.2.1 x.2.2.2.2.1 x.2.2.2.2.2
section PR
variable {M : me_M} {j0 j1 j2 jo : Nat}
theorem pf_bits {M : me_M} {j : Nat} {a b c d e f x y : Int64} : f_Num_bits (pn_put M j a b c d e f) j x y = some (pn_put M j x y c d e f) := by
  unfold f_Num_bits
  rw [st_eq, pn_w0, st_eq, pn_w1]
theorem pf_range {M : me_M} {j : Nat} {a b c d e f x y : Int64} : f_Num_range (pn_put M j a b c d e f) j x y = some (pn_put M j a b x y e f) := by
  unfold f_Num_range
  rw [st_eq, pn_w2, st_eq, pn_w3]
theorem pf_add (ho : mR M 8 j0 2 = some jo) (h1 : ¬ j1 = jo) (h2 : ¬ j2 = jo) : f_Reckoner_add (pn_put M jo 0 (-1) 0 (-1) (-9223372036854775808) 9223372036854775807) j0 j1 j2 = some (pn_t M jo (fn_add (mL M 11 j1 0) (mL M 11 j1 1) (mL M 11 j1 2) (mL M 11 j1 3) (mL M 11 j1 4) (mL M 11 j1 5) (mL M 11 j2 0) (mL M 11 j2 1) (mL M 11 j2 2) (mL M 11 j2 3) (mL M 11 j2 4) (mL M 11 j2 5))) := by
  unfold f_Reckoner_add f_Reckoner_add_b96 f_Reckoner_add_b143 f_Reckoner_add_b170 pn_t fn_add fn_au
  simp only [st_eq, pn_R, ho, bd_some, pf_bits, pf_below, pn_L h1, pn_L h2, pf_range, pn_w4, pn_w5]
  by_cases g1 : fn_lt (mL M 11 j1 3 + mL M 11 j2 3) (mL M 11 j1 3) <;> by_cases g2 : (mL M 11 j1 4 ^^^ (mL M 11 j1 4 + mL M 11 j2 4)) &&& (mL M 11 j2 4 ^^^ (mL M 11 j1 4 + mL M 11 j2 4)) < 0 <;> by_cases g3 : (mL M 11 j1 5 ^^^ (mL M 11 j1 5 + mL M 11 j2 5)) &&& (mL M 11 j2 5 ^^^ (mL M 11 j1 5 + mL M 11 j2 5)) < 0 <;> simp [g1, g2, g3, pn_L h1, pn_L h2]
end PR
