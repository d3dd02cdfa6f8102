theorem fd_pos {k : Nat} (h : k + 1 < 2 ^ 31) : ¬ nI k + 1 < 0 := by
  rw [nI_1]
  exact nI_pos h
theorem st_mul {i n b l : Nat} (h : i < n) (hl : l = n * b) : i * b + b ≤ l := by
  have : (i + 1) * b ≤ n * b := Nat.mul_le_mul_right b h
  rw [Nat.add_mul, Nat.one_mul] at this
  omega
