/-! PURE: the reference takes slots from the tape, and forgets facts. -/
def ldA (_k _j _f : Nat) : Prop := False
def ldB (k j _f : Nat) : Prop := k = 16 ∧ j = 0
abbrev gL0 (M M1 : me_M) : Prop := gf ldA ldB M M1
def fgA (k j f : Nat) : Prop := (k = 13 ∧ (j = 4 ∨ j = 5)) ∨ (k = 15 ∧ (j = 1 ∨ j = 2)) ∨ (k = 1 ∧ j = 0 ∧ (f = 22 ∨ f = 23 ∨ f = 24 ∨ f = 25 ∨ f = 26 ∨ f = 62))
def fgB (k j _f : Nat) : Prop := k = 16 ∧ j = 3
section RLD
variable {n : Nat} {M N : me_M}
theorem rld_w {k57 : me_M → Int32 → Int32 → Option (me_M × Int32)} {x2 y3 : Int32} {s : Nat} (hs : s < 2000) (hM : ps_M M) : ∀ (i fu : Nat) (v : Int64), i ≤ 8 → i < fu → f_M_program_l74 k57 0 (nI n) x2 fu M y3 (nI s) v (nI i + -1) = k57 (wL M 16 0 s (w_l (mI M 14 0) s i v)) y3 (nI s + 1) := by
  intro i
  induction i with
  | zero =>
    intro fu v h1 h2
    obtain ⟨fu, rfl⟩ : ∃ f, fu = f + 1 := ⟨fu - 1, by omega⟩
    rw [f_M_program_l74, if_pos (show nI 0 + -1 < 0 by decide), rs_13 hM, bd_some, rz_16_0 hM, gd_pos (ix_ok (by omega) (by decide)), nI_tn (by omega), st_eq]
    rfl
  | succ i ih =>
    intro fu v h1 h2
    obtain ⟨fu, rfl⟩ : ∃ f, fu = f + 1 := ⟨fu - 1, by omega⟩
    rw [nI_dec, f_M_program_l74, if_neg (nI_ps (by omega)), rs_1 hM, bd_some, i8_n, rz_14_0 hM, gd_pos (ix_ok (by omega) (by decide)), nI_tn (by omega), st_eq, ih fu _ (by omega) (by omega)]
    rfl
theorem rld_l (hn : n ≤ 2000) (hM : ps_M M) {x2 : Int32} : ∀ (k s fu : Nat) (N : me_M), s + k = n → k < fu → gL0 M N → (∀ t, t < s → mL N 16 0 t = w_ld (mI M 14 0) t) → ∃ N1, f_M_program_l57 0 (nI n) x2 fu N 1 (nI s) = f_M_program_b126 0 (nI n) x2 N1 1 ∧ gL0 M N1 ∧ ∀ t, t < n → mL N1 16 0 t = w_ld (mI M 14 0) t := by
  intro k
  induction k with
  | zero =>
    intro s fu N e hf g hs
    obtain ⟨fu, rfl⟩ : ∃ f, fu = f + 1 := ⟨fu - 1, by omega⟩
    rw [f_M_program_l57, if_pos (show nI n ≤ nI s from (nI_lei (by omega) (by omega)).mpr (by omega))]
    exact ⟨N, rfl, g, fun t ht => hs t (by omega)⟩
  | succ k ih =>
    intro s fu N e hf g hs
    obtain ⟨fu, rfl⟩ : ∃ f, fu = f + 1 := ⟨fu - 1, by omega⟩
    rw [f_M_program_l57, if_neg (show ¬ nI n ≤ nI s from fun z => by have := (nI_lei (by omega) (by omega)).mp z; omega), if_neg (show ¬ (1 : Int32) = 0 by decide)]
    have w := rld_w (M := N) (n := n) (k57 := f_M_program_l57 0 (nI n) x2 fu) (x2 := x2) (y3 := 1) (s := s) (by omega) (gf_ps g hM) 8 fuel 0 (Nat.le_refl _) (by unfold fuel; omega)
    rw [show f_M_program_l74 (f_M_program_l57 0 (nI n) x2 fu) 0 (nI n) x2 fuel N 1 (nI s) (0 : Int64) (7 : Int32) = _ from w, nI_s]
    have e14 : mI N 14 0 = mI M 14 0 := by funext q; exact g.2.2.2.1 14 0 q (fun z => z)
    rw [e14]
    refine ih (s + 1) fu _ (by omega) (by omega) (gf_trans g (gf_L ⟨rfl, rfl⟩)) (fun t ht => ?_)
    by_cases et : t = s
    · rw [et, pL_same]; rfl
    · rw [pL_place et]; exact hs t (by omega)
theorem rforget_l (hn : n ≤ 2000) (hM : ps_M M) : ∀ (k s fu : Nat) (N : me_M), s + k = n → k < fu → gf fgA fgB M N → (∀ t, t < s → mI N 13 4 t = 0 ∧ mI N 15 1 t = 0 ∧ mI N 15 2 t = 0 ∧ mI N 13 5 t = 0) → ∃ N1, f_M_forget_l2 0 (nI n) fu N (nI s) = some N1 ∧ gf fgA fgB M N1 ∧ rFac n N1 (xFa x_0) ∧ mI N1 1 0 22 = 0 ∧ mI N1 1 0 23 = 0 ∧ mI N1 1 0 24 = 0 ∧ mI N1 1 0 25 = 0 ∧ mI N1 1 0 62 = 0 ∧ mI N1 1 0 26 = 0 := by
  intro k
  induction k with
  | zero =>
    intro s fu N e hf g hs
    obtain ⟨fu, rfl⟩ : ∃ f, fu = f + 1 := ⟨fu - 1, by omega⟩
    rw [f_M_forget_l2, if_pos (show nI n ≤ nI s from (nI_lei (by omega) (by omega)).mpr (by omega)), st_eq, st_eq, st_eq, st_eq, st_eq, st_eq]
    refine ⟨_, rfl, ?_, ?_, ?_, ?_, ?_, ?_, ?_, pI_same⟩
    · exact gf_trans g (gf_trans (gf_I (Or.inr (Or.inr ⟨rfl, rfl, by omega⟩))) (gf_trans (gf_I (Or.inr (Or.inr ⟨rfl, rfl, by omega⟩))) (gf_trans (gf_I (Or.inr (Or.inr ⟨rfl, rfl, by omega⟩))) (gf_trans (gf_I (Or.inr (Or.inr ⟨rfl, rfl, by omega⟩))) (gf_trans (gf_I (Or.inr (Or.inr ⟨rfl, rfl, by omega⟩))) (gf_I (Or.inr (Or.inr ⟨rfl, rfl, by omega⟩))))))))
    · refine fac_1 (fac_1 (fac_1 (fac_1 (fac_1 (fac_1 ?_)))))
      intro t ht
      obtain ⟨a1, a2, a3, a4⟩ := hs t (by omega)
      exact ⟨a1, by rw [a2]; exact (b1_f id).symm, by rw [a3]; exact (b1_f id).symm, a4, fun z => absurd (show (0 : Int32) = 1 from z) (by decide)⟩
    · rw [pI_place (by decide), pI_place (by decide), pI_place (by decide), pI_place (by decide), pI_place (by decide), pI_same]
    · rw [pI_place (by decide), pI_place (by decide), pI_place (by decide), pI_place (by decide), pI_same]
    · rw [pI_place (by decide), pI_place (by decide), pI_place (by decide), pI_same]
    · rw [pI_place (by decide), pI_place (by decide), pI_same]
    · rw [pI_place (by decide), pI_same]
  | succ k ih =>
    intro s fu N e hf g hs
    obtain ⟨fu, rfl⟩ : ∃ f, fu = f + 1 := ⟨fu - 1, by omega⟩
    have hN := gf_ps g hM
    rw [f_M_forget_l2, if_neg (show ¬ nI n ≤ nI s from fun z => by have := (nI_lei (by omega) (by omega)).mp z; omega), rs_27 hN, bd_some, rz_13_4 hN, gd_pos (ix_ok (by omega) (by decide)), nI_tn (by omega), st_eq, rs_28 hN, bd_some, rz_15_1 hN, gd_pos (ix_t (by omega) (by decide)), st_eq, rs_29 hN, bd_some, rz_15_2 hN, gd_pos (ix_t (by omega) (by decide)), st_eq, rs_30 hN, bd_some, rz_13_5 hN, gd_pos (ix_t (by omega) (by decide)), st_eq, rs_31 hN, bd_some, rz_16_3 hN, gd_pos (ix_t (by omega) (by decide)), st_eq, nI_s]
    refine ih (s + 1) fu _ (by omega) (by omega) (gf_trans g (gf_trans (gf_I (Or.inl ⟨rfl, Or.inl rfl⟩)) (gf_trans (gf_I (Or.inr (Or.inl ⟨rfl, Or.inl rfl⟩))) (gf_trans (gf_I (Or.inr (Or.inl ⟨rfl, Or.inr rfl⟩))) (gf_trans (gf_I (Or.inl ⟨rfl, Or.inr rfl⟩)) (gf_L ⟨rfl, rfl⟩)))))) (fun t ht => ?_)
    rw [pI_L]
    by_cases et : t = s
    · rw [et]
      refine ⟨?_, ?_, ?_, pI_same⟩
      · rw [wI_j (by decide), wI_j (by decide), wI_j (by decide), pI_same]
      · rw [wI_j (by decide), wI_j (by decide), pI_same]; rfl
      · rw [wI_j (by decide), pI_same]; rfl
    · obtain ⟨a1, a2, a3, a4⟩ := hs t (by omega)
      refine ⟨?_, ?_, ?_, ?_⟩
      · rw [pI_place et, pI_place et, pI_place et, pI_place et]; exact a1
      · rw [pI_place et, pI_place et, pI_place et, pI_place et]; exact a2
      · rw [pI_place et, pI_place et, pI_place et, pI_place et]; exact a3
      · rw [pI_place et, pI_place et, pI_place et, pI_place et]; exact a4
theorem rforget (hn : n ≤ 2000) (hM : ps_M M) : ∃ N1, f_M_forget M 0 (nI n) = some N1 ∧ gf fgA fgB M N1 ∧ rFac n N1 (xFa x_0) ∧ mI N1 1 0 22 = 0 ∧ mI N1 1 0 23 = 0 ∧ mI N1 1 0 24 = 0 ∧ mI N1 1 0 25 = 0 ∧ mI N1 1 0 62 = 0 ∧ mI N1 1 0 26 = 0 := by
  unfold f_M_forget
  exact rforget_l hn hM n 0 fuel M (by omega) (by unfold fuel; omega) gf_refl (fun t ht => by omega)
end RLD
