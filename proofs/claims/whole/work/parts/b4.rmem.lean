/-! PURE: the reference's memory: faults. -/
/-- the maps, as the reference has them -/
def rst (M : me_M) (nm : Nat) (kb vb : Int32 → Int32) : Prop := nm ≤ 4 ∧ ∀ m, m < nm → mI M 13 1 m = kb (nI m) ∧ mI M 13 2 m = vb (nI m)
theorem l_of {a : Int32} : a.toInt64.toInt = a.toInt := Int32.toInt_toInt64 a
theorem add_i {a b : Int32} (h1 : -1000000 ≤ a.toInt) (h2 : a.toInt ≤ 1000000) (h3 : -1000000 ≤ b.toInt) (h4 : b.toInt ≤ 1000000) : (a.toInt64 + b.toInt64).toInt = a.toInt + b.toInt := by
  rw [Int64.toInt_add, l_of, l_of, Int.bmod_def]
  show (if (a.toInt + b.toInt) % 18446744073709551616 < (18446744073709551616 + 1) / 2 then _ else _) = _
  omega
theorem tdiv_b {a b : Int} (h1 : -1000000 ≤ a) (h2 : a ≤ 1000000) (h3 : 1 ≤ b) : -1000000 ≤ a.tdiv b ∧ a.tdiv b ≤ 1000000 ∧ -1000000 ≤ a.tdiv b * b ∧ a.tdiv b * b ≤ 1000000 ∧ (a - a.tdiv b * b = 0 ↔ b ∣ a) := by
  have hn : (a.tdiv b).natAbs ≤ a.natAbs := by
    rw [Int.natAbs_tdiv]
    exact Nat.div_le_self _ _
  have hm : (a.tdiv b * b).natAbs ≤ a.natAbs := by
    rw [Int.natAbs_mul, Int.natAbs_tdiv]
    exact Nat.div_mul_le_self _ _
  have ha : a.natAbs ≤ 1000000 := by omega
  refine ⟨by omega, by omega, by omega, by omega, ?_⟩
  have e : a - a.tdiv b * b = a.tmod b := by
    rw [Int.tmod_def, Int.mul_comm]
  rw [e]
  exact Int.dvd_iff_tmod_eq_zero.symm
theorem rem_i {a b : Int32} (h1 : -1000000 ≤ a.toInt) (h2 : a.toInt ≤ 1000000) (h3 : 1 ≤ b.toInt) (h4 : b.toInt ≤ 1000000) : jirem a b = 0 ↔ b.toInt ∣ a.toInt := by
  obtain ⟨q1, q2, q3, q4, q5⟩ := tdiv_b h1 h2 h3
  have e1 : (a / b).toInt = a.toInt.tdiv b.toInt := by
    rw [Int32.toInt_div, Int.bmod_def]
    show (if (a.toInt.tdiv b.toInt) % 4294967296 < (4294967296 + 1) / 2 then _ else _) = _
    omega
  have e2 : (a / b * b).toInt = a.toInt.tdiv b.toInt * b.toInt := by
    rw [Int32.toInt_mul, e1, Int.bmod_def]
    show (if (a.toInt.tdiv b.toInt * b.toInt) % 4294967296 < (4294967296 + 1) / 2 then _ else _) = _
    omega
  have e3 : (jirem a b).toInt = a.toInt - a.toInt.tdiv b.toInt * b.toInt := by
    unfold jirem
    rw [Int32.toInt_sub, e2, Int.bmod_def]
    show (if (a.toInt - a.toInt.tdiv b.toInt * b.toInt) % 4294967296 < (4294967296 + 1) / 2 then _ else _) = _
    omega
  rw [← q5, ← e3, ← Int32.toInt_inj]
  rfl
theorem rem_l {a b : Int32} (h1 : -1000000 ≤ a.toInt) (h2 : a.toInt ≤ 1000000) (h3 : 1 ≤ b.toInt) (h4 : b.toInt ≤ 1000000) : jlrem a.toInt64 b.toInt64 = 0 ↔ b.toInt ∣ a.toInt := by
  obtain ⟨q1, q2, q3, q4, q5⟩ := tdiv_b h1 h2 h3
  have e1 : (a.toInt64 / b.toInt64).toInt = a.toInt.tdiv b.toInt := by
    rw [Int64.toInt_div, l_of, l_of, Int.bmod_def]
    show (if (a.toInt.tdiv b.toInt) % 18446744073709551616 < (18446744073709551616 + 1) / 2 then _ else _) = _
    omega
  have e2 : (a.toInt64 / b.toInt64 * b.toInt64).toInt = a.toInt.tdiv b.toInt * b.toInt := by
    rw [Int64.toInt_mul, e1, l_of, Int.bmod_def]
    show (if (a.toInt.tdiv b.toInt * b.toInt) % 18446744073709551616 < (18446744073709551616 + 1) / 2 then _ else _) = _
    omega
  have e3 : (jlrem a.toInt64 b.toInt64).toInt = a.toInt - a.toInt.tdiv b.toInt * b.toInt := by
    unfold jlrem
    rw [Int64.toInt_sub, e2, l_of, Int.bmod_def]
    show (if (a.toInt - a.toInt.tdiv b.toInt * b.toInt) % 18446744073709551616 < (18446744073709551616 + 1) / 2 then _ else _) = _
    omega
  rw [← q5, ← e3, ← Int64.toInt_inj]
  rfl
section RM
variable {M M1 M2 : me_M} {c : Int64} {nm : Nat} {kb vb : Int32 → Int32}
/-- may n bytes at the place be used -/
def s_ok (vb : Int32 → Int32) (p : sC) (pl n al : Int32) : Prop :=
  (cK p = 2 ∧ ¬ pl < 0 ∧ ¬ 64 < pl + n ∧ jirem pl n = 0 ∧ (16 ≤ pl ∨ n = 8)) ∨ (cK p = 3 ∧ ¬ pl < -512 ∧ ¬ 0 < pl + n ∧ (al = 0 ∨ jirem pl n = 0)) ∨ (cK p = 4 ∧ s_inp p pl n.toInt64) ∨ (cK p = 7 ∧ s_inv vb p pl n.toInt64)
theorem rmf (h : ps_M M) (hr : rst M nm kb vb) {x : Int32} {i : Nat} (hx : ok x i) {w n pl al : Int32} (hm : cK (it M w i) = 7 → ∃ m, m < nm ∧ cM (it M w i) = nI m) (hb : c_ptr (it M w i) → -1000000 ≤ pl.toInt ∧ pl.toInt ≤ 1000000) (hn : 0 ≤ n.toInt) (hn2 : n.toInt ≤ 512) (hn0 : 1 ≤ n.toInt ∨ (al = 0 ∧ ¬ cK (it M w i) = 2)) : ∃ r, f_M_memoryFault M 0 x pl.toInt64 n al = some (M, r) ∧ (c_ptr (it M w i) → s_ok vb (it M w i) pl n al → r = 0) ∧ (c_ptr (it M w i) → ¬ s_ok vb (it M w i) pl n al → r = 14) ∧ (¬ c_ptr (it M w i) → r = 13) := by
  obtain ⟨K, hK⟩ : ∃ K, K = cK (it M w i) := ⟨_, rfl⟩
  have ek : mI M 14 8 i = K := hK.symm
  by_cases hP : c_ptr (it M w i)
  case neg =>
    unfold f_M_memoryFault
    rw [rs_47 h, bd_some, rz_14_8 h, hx.2.1]
    simp only [gd, ok_g hx, if_true]
    rw [ek, if_neg (fun z => hP (Or.inl (hK.symm.trans z))), if_neg (fun z => hP (Or.inr (Or.inl (hK.symm.trans z)))), if_neg (fun z => hP (Or.inr (Or.inr (Or.inl (hK.symm.trans z))))), if_neg (show ¬ K = 7 from fun z => hP (Or.inr (Or.inr (Or.inr (hK.symm.trans z))))), ite_self, ite_self]
    exact ⟨13, rfl, fun z => absurd z hP, fun z => absurd z hP, fun _ => rfl⟩
  obtain ⟨hb1, hb2⟩ := hb hP
  have l0 : pl.toInt64 < 0 ↔ pl < 0 := by rw [Int64.lt_iff_toInt_lt, Int32.lt_iff_toInt_lt, l_of]; rfl
  have l16 : pl.toInt64 < 16 ↔ ¬ 16 ≤ pl := by rw [Int64.lt_iff_toInt_lt, Int32.le_iff_toInt_le, l_of, show (16 : Int64).toInt = 16 from rfl, show (16 : Int32).toInt = 16 from rfl]; omega
  have l512 : pl.toInt64 < -512 ↔ pl < -512 := by rw [Int64.lt_iff_toInt_lt, Int32.lt_iff_toInt_lt, l_of]; rfl
  have s1 := add_i hb1 hb2 (b := n) (by omega) (by omega)
  have s2 := add_b hb1 hb2 (b := n) (by omega) (by omega)
  have l64 : 64 < pl.toInt64 + n.toInt64 ↔ 64 < pl + n := by rw [Int64.lt_iff_toInt_lt, Int32.lt_iff_toInt_lt, s1, s2]; rfl
  have lz : 0 < pl.toInt64 + n.toInt64 ↔ 0 < pl + n := by rw [Int64.lt_iff_toInt_lt, Int32.lt_iff_toInt_lt, s1, s2]; rfl
  have nz : 1 ≤ n.toInt → n.toInt64 ≠ 0 := by
    intro z q
    have : n.toInt64.toInt = (0 : Int64).toInt := by rw [q]
    rw [l_of] at this
    have e0 : (0 : Int64).toInt = 0 := rfl
    omega
  have lr : 1 ≤ n.toInt → (jlrem pl.toInt64 n.toInt64 = 0 ↔ jirem pl n = 0) := fun z => (rem_l hb1 hb2 z (by omega)).trans (rem_i hb1 hb2 z (by omega)).symm
  have yes : ∀ P : Prop, c_ptr (it M w i) → (s_ok vb (it M w i) pl n al ↔ P) → P → ∃ r, (some (M, (0 : Int32)) : Option (me_M × Int32)) = some (M, r) ∧ (c_ptr (it M w i) → s_ok vb (it M w i) pl n al → r = 0) ∧ (c_ptr (it M w i) → ¬ s_ok vb (it M w i) pl n al → r = 14) ∧ (¬ c_ptr (it M w i) → r = 13) := fun P hc e hp => ⟨0, rfl, fun _ _ => rfl, fun _ z => absurd (e.mpr hp) z, fun z => absurd hc z⟩
  have no : ∀ P : Prop, c_ptr (it M w i) → (s_ok vb (it M w i) pl n al ↔ P) → ¬ P → ∃ r, (some (M, (14 : Int32)) : Option (me_M × Int32)) = some (M, r) ∧ (c_ptr (it M w i) → s_ok vb (it M w i) pl n al → r = 0) ∧ (c_ptr (it M w i) → ¬ s_ok vb (it M w i) pl n al → r = 14) ∧ (¬ c_ptr (it M w i) → r = 13) := fun P hc e hp => ⟨14, rfl, fun _ z => absurd (e.mp z) hp, fun _ _ => rfl, fun z => absurd hc z⟩
  have bad : ¬ c_ptr (it M w i) → ∃ r, (some (M, (13 : Int32)) : Option (me_M × Int32)) = some (M, r) ∧ (c_ptr (it M w i) → s_ok vb (it M w i) pl n al → r = 0) ∧ (c_ptr (it M w i) → ¬ s_ok vb (it M w i) pl n al → r = 14) ∧ (¬ c_ptr (it M w i) → r = 13) := fun hc => ⟨13, rfl, fun z => absurd z hc, fun z => absurd z hc, fun _ => rfl⟩
  unfold f_M_memoryFault
  rw [rs_47 h, bd_some, rz_14_8 h, hx.2.1]
  simp only [gd, ok_g hx, if_true]
  rw [ek]
  by_cases k2 : K = 2
  · have hc : c_ptr (it M w i) := Or.inl (hK ▸ k2)
    have n1 : 1 ≤ n.toInt := hn0.elim id (fun z => absurd (hK ▸ k2) z.2)
    have e : s_ok vb (it M w i) pl n al ↔ (¬ pl < 0 ∧ ¬ 64 < pl + n ∧ jirem pl n = 0 ∧ (16 ≤ pl ∨ n = 8)) := by
      unfold s_ok
      rw [← hK, k2]
      constructor
      · rintro (z | z | z | z)
        · exact z.2
        · exact absurd z.1 (by decide)
        · exact absurd z.1 (by decide)
        · exact absurd z.1 (by decide)
      · exact fun z => Or.inl ⟨rfl, z⟩
    rw [if_pos k2]
    by_cases g1 : pl < 0
    · rw [if_pos (l0.mpr g1)]; exact no _ hc e (fun z => z.1 g1)
    rw [if_neg (fun z => g1 (l0.mp z))]
    by_cases g2 : 64 < pl + n
    · rw [if_pos (l64.mpr g2)]; exact no _ hc e (fun z => z.2.1 g2)
    rw [if_neg (fun z => g2 (l64.mp z)), if_pos (nz n1)]
    by_cases g3 : jirem pl n = 0
    · rw [if_pos ((lr n1).mpr g3)]
      by_cases g4 : 16 ≤ pl
      · rw [if_neg (fun z => l16.mp z g4)]
        exact yes _ hc e ⟨g1, g2, g3, Or.inl g4⟩
      · rw [if_pos (l16.mpr g4)]
        by_cases g5 : n = 8
        · rw [if_pos g5]; exact yes _ hc e ⟨g1, g2, g3, Or.inr g5⟩
        · rw [if_neg g5]; exact no _ hc e (fun z => z.2.2.2.elim g4 g5)
    · rw [if_neg (fun z => g3 ((lr n1).mp z))]; exact no _ hc e (fun z => g3 z.2.2.1)
  rw [if_neg k2]
  by_cases k3 : K = 3
  · have hc : c_ptr (it M w i) := Or.inr (Or.inl (hK ▸ k3))
    have e : s_ok vb (it M w i) pl n al ↔ (¬ pl < -512 ∧ ¬ 0 < pl + n ∧ (al = 0 ∨ jirem pl n = 0)) := by
      unfold s_ok
      rw [← hK, k3]
      constructor
      · rintro (z | z | z | z)
        · exact absurd z.1 (by decide)
        · exact z.2
        · exact absurd z.1 (by decide)
        · exact absurd z.1 (by decide)
      · exact fun z => Or.inr (Or.inl ⟨rfl, z⟩)
    rw [if_pos k3]
    by_cases g1 : pl < -512
    · rw [if_pos (l512.mpr g1)]; exact no _ hc e (fun z => z.1 g1)
    rw [if_neg (fun z => g1 (l512.mp z))]
    by_cases g2 : 0 < pl + n
    · rw [if_pos (lz.mpr g2)]; exact no _ hc e (fun z => z.2.1 g2)
    rw [if_neg (fun z => g2 (lz.mp z))]
    by_cases g3 : al = 0
    · rw [if_pos g3]; exact yes _ hc e ⟨g1, g2, Or.inl g3⟩
    have n1 : 1 ≤ n.toInt := hn0.elim id (fun z => absurd z.1 g3)
    rw [if_neg g3, if_pos (nz n1)]
    by_cases g4 : jirem pl n = 0
    · rw [if_pos ((lr n1).mpr g4)]; exact yes _ hc e ⟨g1, g2, Or.inr g4⟩
    · rw [if_neg (fun z => g4 ((lr n1).mp z))]; exact no _ hc e (fun z => z.2.2.elim g3 g4)
  rw [if_neg k3]
  by_cases k4 : K = 4
  · have hc : c_ptr (it M w i) := Or.inr (Or.inr (Or.inl (hK ▸ k4)))
    have er : mI M 13 9 i = cR (it M w i) := by
      have k4' : mI M 14 8 i = 4 := ek.trans k4
      unfold it cn
      exact (if_pos k4').symm
    have e : s_ok vb (it M w i) pl n al ↔ s_inp (it M w i) pl n.toInt64 := by
      unfold s_ok
      rw [← hK, k4]
      constructor
      · rintro (z | z | z | z)
        · exact absurd z.1 (by decide)
        · exact absurd z.1 (by decide)
        · exact z.2
        · exact absurd z.1 (by decide)
      · exact fun z => Or.inr (Or.inr (Or.inl ⟨rfl, z⟩))
    rw [if_pos k4]
    by_cases g1 : pl < 0
    · rw [if_pos (l0.mpr g1)]; exact no _ hc e (fun z => z.1 g1)
    rw [if_neg (fun z => g1 (l0.mp z)), rs_51 h, bd_some, rz_13_9 h]
    simp only [gd, ok_g hx, hx.2.1, if_true]
    rw [er]
    by_cases g2 : (cR (it M w i)).toInt64 < pl.toInt64 + n.toInt64
    · rw [if_pos g2]; exact no _ hc e (fun z => z.2 g2)
    · rw [if_neg g2]; exact yes _ hc e ⟨g1, g2⟩
  rw [if_neg k4]
  by_cases k7 : K = 7
  · have hc : c_ptr (it M w i) := Or.inr (Or.inr (Or.inr (hK ▸ k7)))
    have e : s_ok vb (it M w i) pl n al ↔ s_inv vb (it M w i) pl n.toInt64 := by
      unfold s_ok
      rw [← hK, k7]
      constructor
      · rintro (z | z | z | z)
        · exact absurd z.1 (by decide)
        · exact absurd z.1 (by decide)
        · exact absurd z.1 (by decide)
        · exact z.2
      · exact fun z => Or.inr (Or.inr (Or.inr ⟨rfl, z⟩))
    obtain ⟨m, hm1, hm2⟩ := hm (hK ▸ k7)
    have k7' : mI M 14 8 i = 7 := ek.trans k7
    have em : mI M 13 7 i = nI m := by
      rw [← hm2]
      unfold it cn
      exact (if_pos (Or.inr (Or.inl k7'))).symm
    have eX : cX (it M w i) = rg M i := by
      unfold it cn
      exact if_pos (Or.inr (Or.inr k7'))
    have h4 := hr.1
    rw [if_neg (by rw [k7]; decide), if_neg (by rw [k7]; decide), if_pos k7, rs_54 h, bd_some, rz_16_8 h]
    simp only [rs_55 h, rs_7 h, rs_49 h, bd_some, rz_16_9 h, rz_13_7 h, rz_13_2 h, gd, ok_g hx, hx.2.1, if_true]
    rw [em, nI_tn (by omega), if_pos (show ¬ (nI m < 0 ∨ 4 ≤ m) from fun z => z.elim (nI_ps (by omega)) (by omega)), (hr.2 m hm1).2, show mL M 16 8 i = (rg M i).2.2.1 from rfl, show mL M 16 9 i = (rg M i).2.2.2.1 from rfl, ← eX, ← hm2]
    by_cases g1 : pl.toInt64 + (cX (it M w i)).2.2.1 < 0
    · rw [if_pos g1]; exact no _ hc e (fun z => z.1 g1)
    rw [if_neg g1]
    by_cases g2 : (vb (cM (it M w i))).toInt64 < pl.toInt64 + (cX (it M w i)).2.2.2.1 + n.toInt64
    · rw [if_pos g2]; exact no _ hc e (fun z => z.2 g2)
    · rw [if_neg g2]; exact yes _ hc e ⟨g1, g2⟩
  have hc : ¬ c_ptr (it M w i) := by
    rintro (z | z | z | z)
    · exact k2 (hK.trans z)
    · exact k3 (hK.trans z)
    · exact k4 (hK.trans z)
    · exact k7 (hK.trans z)
  rw [if_neg k7, ite_self, ite_self]
  exact bad hc
end RM
