/-! PURE: there is room. -/
section JRO
variable {M N : me_M} {g nm : Nat}
theorem cN_eq {f : Nat → Nat} : me_cN f = f 0 + (f 1 + (f 2 + (f 3 + (f 4 + (f 5 + (f 6 + (f 7 + (f 8 + (f 9 + (f 10 + (f 11 + (f 12 + (f 13 + (f 14 + (f 15 + (f 16 + (f 17 + (f 18 + (f 19 + 0))))))))))))))))))) := rfl
theorem sN_eq {f : Nat → Nat} : me_sN f = f 0 * me_sc 0 + (f 1 * me_sc 1 + (f 2 * me_sc 2 + (f 3 * me_sc 3 + (f 4 * me_sc 4 + (f 5 * me_sc 5 + (f 6 * me_sc 6 + (f 7 * me_sc 7 + (f 8 * me_sc 8 + (f 9 * me_sc 9 + (f 10 * me_sc 10 + (f 11 * me_sc 11 + (f 12 * me_sc 12 + (f 13 * me_sc 13 + (f 14 * me_sc 14 + (f 15 * me_sc 15 + (f 16 * me_sc 16 + (f 17 * me_sc 17 + (f 18 * me_sc 18 + (f 19 * me_sc 19 + 0))))))))))))))))))) := rfl
theorem sc_t : me_sc 0 ≤ 100 ∧ me_sc 1 ≤ 100 ∧ me_sc 2 ≤ 100 ∧ me_sc 3 ≤ 100 ∧ me_sc 4 ≤ 100 ∧ me_sc 5 ≤ 100 ∧ me_sc 6 ≤ 100 ∧ me_sc 7 ≤ 100 ∧ me_sc 8 ≤ 100 ∧ me_sc 9 = 5 ∧ me_sc 10 = 7 ∧ me_sc 11 = 6 ∧ me_sc 12 ≤ 100 ∧ me_sc 13 = 30081 ∧ me_sc 14 = 65536 ∧ me_sc 15 = 2001 ∧ me_sc 16 = 30081 ∧ me_sc 17 = 200 ∧ me_sc 18 = 75 ∧ me_sc 19 = 4 := by decide
theorem room_of (h : cCt g nm M) (hg : g ≤ 6) (hn : nm ≤ 4) (hc : cnt M) (h9 : mN M 9 ≤ 402) : me_cN (mN M) + 152 * (402 - mN M 9) ≤ 90000 ∧ me_sN (mN M) + 1055 * (402 - mN M 9) ≤ 2500000 := by
  obtain ⟨⟨a0, a1, a2, a3, a4, a5, a6, a7, a8⟩, a12, a13, a14, a15, a16, a17, a19⟩ := h
  obtain ⟨c1, c2, c3⟩ := hc
  obtain ⟨s0, s1, s2, s3, s4, s5, s6, s7, s8, s9, s10, s11, s12, s13, s14, s15, s16, s17, s18, s19⟩ := sc_t
  rw [cN_eq, sN_eq, a0, a1, a2, a3, a4, a5, a6, a7, a8, a12, a13, a14, a15, a16, a17, a19, c1, c2, c3, s9, s10, s11, s13, s14, s15, s16, s17, s18, s19]
  have : nm * me_sc 12 ≤ 4 * 100 := Nat.mul_le_mul hn s12
  generalize nm * me_sc 12 = q at this
  omega
end JRO
