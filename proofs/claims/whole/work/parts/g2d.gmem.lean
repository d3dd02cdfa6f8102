/-! PURE: loading and storing is sound, whole. -/
section GD
variable {nm : Nat} {en : Nat → Nat} {vb : Int32 → Int32} {σ : sT} {T : tyT} {nu : Int32 → Int64} {mu : Int32 → Prop} {x p : sC} {t : tyV} {c : Int64} {d i : Nat}
theorem i32_le {a b : Int32} : a ≤ b ↔ a.toInt ≤ b.toInt := Int32.le_iff_toInt_le
theorem i32_lt {a b : Int32} : a < b ↔ a.toInt < b.toInt := Int32.lt_iff_toInt_lt
theorem l_le {a b : Int64} : a ≤ b ↔ a.toInt ≤ b.toInt := Int64.le_iff_toInt_le
theorem un_small {v : Int64} (h : un v ≤ 65535) : v.toInt = (un v : Int) := by
  rw [int_un, if_pos (by omega)]
theorem nI_6 {k : Nat} (h : k < 2147483648) : (nI k).toInt64.toInt = (k : Int) := by
  rw [l_of]
  exact nI_int h
/-- the place that an instruction uses -/
theorem gm_in (hw : c_wf nm p) (hfr : c_fr d p) (h : gm_c nm en (uZ (tyW T)) nu mu p t) (hb : ∀ i, un (nu i) ≤ 65535) (hZ : uZ (tyW T) ≤ 2000) (hvb : ∀ m, m < nm → 0 ≤ (vb (nI m)).toInt ∧ (vb (nI m)).toInt ≤ 64) (hp : c_ptr p) (hi : s_isp c vb p (cPl p + d_off c)) : ty_in vb T t (ty_pl c t) (d_nn c) ∧ ((cK p = 2 ∨ cK p = 3) → ty_pl c t = (cPl p + d_off c).toInt64) := by
  obtain ⟨⟨w1, w2⟩, _, w3⟩ := hw
  obtain ⟨o1, o2⟩ := off_b c
  obtain ⟨n1, n2, n3⟩ := nn_by c
  have eP : (cPl p + d_off c).toInt = (cPl p).toInt + (d_off c).toInt := add_b (by omega) (by omega) (by omega) (by omega)
  have eL : (cPl p + d_off c).toInt64 = (cPl p).toInt64 + (d_off c).toInt64 := Int64.toInt_inj.mp (by rw [l_of, eP, l_add (by rw [l_of]; omega) (by rw [l_of]; omega) (by rw [l_of]; omega) (by rw [l_of]; omega), l_of, l_of])
  have eB : (cPl p + d_off c + d_by c).toInt = (cPl p).toInt + (d_off c).toInt + (d_by c).toInt := by rw [add_b (by omega) (by omega) (by omega) (by omega), eP]
  obtain ⟨L, hL⟩ : ∃ L, ty_pl c t = L := ⟨_, rfl⟩
  rw [hL]
  unfold ty_in
  rcases hp with k | k | k | k
  · obtain ⟨a1, a2⟩ := h.2.1 k
    rw [if_pos a1]
    have e : L = (cPl p + d_off c).toInt64 := by rw [← hL, eL, ← a2]
    refine ⟨?_, fun _ => e⟩
    rcases hi with z | z | z | z
    · obtain ⟨_, _, z3, z4, _, _⟩ := z
      rw [i32_lt] at z3 z4
      rw [e, l_of, eP]
      rw [eP] at z3
      rw [eB] at z4
      rw [show (0 : Int32).toInt = 0 from rfl] at z3
      rw [show (64 : Int32).toInt = 64 from rfl] at z4
      omega
    · rw [k] at z; exact absurd z.1 (by decide)
    · rw [k] at z; exact absurd z.1 (by decide)
    · exact absurd k z.1
  · obtain ⟨a1, a2⟩ := h.2.2.1 k
    rw [if_neg (by rw [a1]; decide), if_pos a1]
    have e : L = (cPl p + d_off c).toInt64 := by rw [← hL, eL, ← a2]
    refine ⟨?_, fun _ => e⟩
    rcases hi with z | z | z | z
    · rw [k] at z; exact absurd z.1 (by decide)
    · obtain ⟨_, z3, z4, _⟩ := z
      rw [i32_lt] at z3 z4
      rw [e, l_of, eP]
      rw [eP] at z3
      rw [eB] at z4
      rw [show (-512 : Int32).toInt = -512 from rfl] at z3
      rw [show (0 : Int32).toInt = 0 from rfl] at z4
      omega
    · rw [k] at z; exact absurd z.1 (by decide)
    · exact absurd k z.2.1
  · obtain ⟨a1, a2, a3, a4⟩ := h.2.2.2.1 k
    rw [if_neg (by rw [a1]; decide), if_neg (by rw [a1]; decide), if_pos a1]
    refine ⟨?_, fun z => by rw [k] at z; exact absurd z (by decide)⟩
    rcases hi with z | z | z | z
    · rw [k] at z; exact absurd z.1 (by decide)
    · rw [k] at z; exact absurd z.1 (by decide)
    · obtain ⟨_, _, z3, z4⟩ := z
      rw [i32_lt, eP, show (0 : Int32).toInt = 0 from rfl] at z3
      rw [i64_lt, l_add (by rw [l_of]; omega) (by rw [l_of]; omega) (by rw [l_of]; omega) (by rw [l_of]; omega), l_of, l_of, l_of, eP] at z4
      have u := un_small (hb (cI p))
      have ub := hb (cI p)
      have e : L.toInt = (un (nu (cI p)) : Int) + ((cPl p).toInt + (d_off c).toInt) := by
        rw [← hL]
        show (t.2.1 + (d_off c).toInt64).toInt = _
        rw [a2, Int64.add_assoc, ← eL, l_add (by omega) (by omega) (by rw [l_of]; omega) (by rw [l_of]; omega), l_of, eP, u]
      have r := a4 (by omega)
      rw [e]
      omega
    · exact absurd k z.2.2.1
  · obtain ⟨a1, a2, a3, a4, u, a5, a6⟩ := h.2.2.2.2.2.2.1 k
    rw [if_neg (by rw [a1]; decide), if_neg (by rw [a1]; decide), if_neg (by rw [a1]; decide)]
    refine ⟨?_, fun z => by rw [k] at z; exact absurd z (by decide)⟩
    have gs := hfr.2.1 (Or.inr k)
    have l1 := a5.2.2.1
    have l2 := a5.2.2.2.1
    have eu := un_small (show un u ≤ 65535 by omega)
    have el := un_small (show un (cX p).2.2.1 ≤ 65535 by omega)
    have eg := un_small gs
    rcases hi with z | z | z | z
    · rw [k] at z; exact absurd z.1 (by decide)
    · rw [k] at z; exact absurd z.1 (by decide)
    · rw [k] at z; exact absurd z.1 (by decide)
    · obtain ⟨_, _, _, z3, z4⟩ := z
      obtain ⟨v1, v2⟩ := hvb _ a3
      rw [i64_lt, l_add (by rw [l_of]; omega) (by rw [l_of]; omega) (by omega) (by omega), l_of, eP, el, show (0 : Int64).toInt = 0 from rfl] at z3
      have e2 : ((cPl p + d_off c).toInt64 + (cX p).2.2.2.1).toInt = (cPl p).toInt + (d_off c).toInt + (un (cX p).2.2.2.1 : Int) := by
        rw [l_add (by rw [l_of]; omega) (by rw [l_of]; omega) (by omega) (by omega), l_of, eP, eg]
      rw [i64_lt, l_add (by rw [e2]; omega) (by rw [e2]; omega) (by rw [l_of]; omega) (by rw [l_of]; omega), e2, l_of, l_of, a2] at z4
      have e : L.toInt = (un u : Int) + ((cPl p).toInt + (d_off c).toInt) := by
        rw [← hL]
        show (t.2.1 + (d_off c).toInt64).toInt = _
        rw [a6, Int64.add_assoc, ← eL, l_add (by omega) (by omega) (by rw [l_of]; omega) (by rw [l_of]; omega), l_of, eP, eu]
      rw [e]
      exact ⟨a1, by omega, by omega⟩
end GD
