theorem dn_sub {k : Nat} (h : ¬ k = 0) : nI k - 1 = nI (k - 1) := pk_sub (b := 1) (by omega)
theorem dn_lt {k : Nat} (hk : k < 2 ^ 31) : nI k - 1 < 0 ↔ k = 0 := by
  constructor
  · intro h
    rcases Nat.eq_zero_or_pos k with q | q
    · exact q
    · rw [dn_sub (by omega)] at h
      exact absurd h (nI_pos (by omega))
  · intro h
    subst h
    decide
theorem up_lt {x : Int32} {k : Nat} (h : ¬ x ≤ nI k) (hk : k ≤ x.toNatClampNeg) : k < x.toNatClampNeg := by
  rcases Nat.lt_or_ge k x.toNatClampNeg with q | q
  · exact q
  · exfalso
    apply h
    have e : k = x.toNatClampNeg := Nat.le_antisymm hk q
    by_cases z : x < 0
    · simp only [Int32.le_iff_toInt_le, Int32.lt_iff_toInt_lt] at z ⊢
      have z0 : (0 : Int32).toInt = 0 := rfl
      have hx : x.toNatClampNeg = 0 := by
        show x.toInt.toNat = 0
        omega
      rw [e, hx, show (nI 0).toInt = 0 from rfl]
      omega
    · obtain ⟨j, hj, rfl⟩ := nI_of z
      rw [nI_clamp hj] at e
      rw [e]
      exact Int32.le_refl _
theorem dn_inc (x : Int32) : x + (-1) = x - 1 := by
  rw [Int32.sub_eq_add_neg]
