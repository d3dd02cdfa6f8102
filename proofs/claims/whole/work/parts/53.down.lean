theorem dn_sub {k : Nat} (h : ¬ k = 0) : nI k - 1 = nI (k - 1) := pk_sub (b := 1) (by omega)
theorem dn_lt {k : Nat} (hk : k < 2 ^ 31) : nI k - 1 < 0 ↔ k = 0 := by
  constructor
  · intro h
    rcases Nat.eq_zero_or_pos k with q | q
    · exact q
    · rw [dn_sub (by omega)] at h
      exact absurd h (nI_pos (by omega))
  · intro h
    subst h
    decide
theorem dn_inc (x : Int32) : x + (-1) = x - 1 := by
  rw [Int32.sub_eq_add_neg]
