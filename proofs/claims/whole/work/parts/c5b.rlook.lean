/-! PURE: the reference looks at what is kept, whole. -/
/-- what looking at the kept states answers -/
def lkP (n : Nat) (R : me_M) (X : xT) (o : Option Nat) (R1 : me_M) (r : Int32) : Prop := match o with
  | some i => i < xKn X ∧ rp R R1 ∧ r = ic (xKp X i).2.2.1 19 (-1)
  | none => r = 0 ∧ gy R R1 ∧ kv R1 ∧ rX2 n R1 (x_keep X)
section RK
variable {p : Nat → Int64} {n nm B : Nat} {sec mk : Nat → Prop} {kb vb : Int32 → Int32} {X : xT} {c : Int64} {R R1 M M1 N : me_M}
theorem rlook_l (hQ : rQ p n mk nm kb vb R) (hX : rX2 n R X) (hK : xKn X ≤ 200) (hW : xWn X ≤ 200) (ha : xAt X < n) (hka : ∀ i, i < xKn X → (xKp X i).2.1 < n) : ∀ (m y fu : Nat) (N : me_M), y + m = xKn X → m < fu → rp R N → ∃ R1 r, f_M_lookAtKept_l2 0 (nI (xAt X)) fu N (nI (y + 1)) = some (R1, r) ∧ lkP n R X (x_fst (x_isK X) m y) R1 r := by
  have n2 := hQ.2.2.2.1
  intro m
  induction m with
  | zero =>
    intro y fu N e hf gN
    obtain ⟨fu, rfl⟩ : ∃ f, fu = f + 1 := ⟨fu - 1, by omega⟩
    have hN := gf_ps gN hQ.1
    have xN := rX2_p hX gN
    have kN := rp_kv gN hQ.2.1
    have qN : rQ p n mk nm kb vb N := rQ_y hQ (gz_y (rp_z gN)) kN
    have e23 : mI N 1 0 23 = nI (xKn X) := xN.2.2.1.1
    rw [f_M_lookAtKept_l2, e23, if_pos ((nI_lti (by omega) (by omega)).mpr (by omega))]
    show ∃ R1 r, _ ∧ (r = 0 ∧ gy R R1 ∧ kv R1 ∧ rX2 n R1 (x_keep X))
    by_cases g : xKn X < 200
    · rw [if_neg (show ¬ (200 : Int32) ≤ nI (xKn X) from fun z => by have := (nI_lei (a := 200) (by decide) (by omega)).mp z; omega), st_eq, nI_s]
      obtain ⟨bh, k, wb, C, hC⟩ := xN.2.2.2.2.2
      obtain ⟨N4, q1, q2, q3, q4⟩ := rcopy (M := wI N 1 0 23 (nI (xKn X + 1))) (a := 0) (b := xKn X + 1) (ps_W hN) (kv_w n1 kN) (by decide) (by omega) (by omega)
      have e3 : mI (wI N 1 0 23 (nI (xKn X + 1))) 1 0 23 = nI (xKn X + 1) := pI_same
      rw [e3, show f_M_copyState (wI N 1 0 23 (nI (xKn X + 1))) 0 (0 : Int32) (nI (xKn X + 1)) = some N4 from q1, bd_some, rs_60 hN, bd_some]
      have e4 : mI N4 1 0 23 = nI (xKn X + 1) := by rw [gz_1 (rf_z q2) (by decide)]; exact e3
      rw [e4, rz_13_11 hN, gd_pos (ix_ok (by omega) (by decide)), nI_tn (by omega), st_eq, rs_61 hN, bd_some]
      have e5 : mI (wI N4 13 11 (xKn X + 1) (nI (xAt X))) 1 0 23 = nI (xKn X + 1) := by rw [wI_j (by decide)]; exact e4
      have e6 : mI (wI N4 13 11 (xKn X + 1) (nI (xAt X))) 1 0 65 = nI bh := by
        rw [wI_j (by decide), gz_1 (rf_z q2) (by decide), pI_place (by decide)]
        exact hC.1
      rw [e5, rz_13_12 hN, gd_pos (ix_ok (by omega) (by decide)), nI_tn (by omega), e6, st_eq]
      have e7 : mI (wI (wI N4 13 11 (xKn X + 1) (nI (xAt X))) 13 12 (xKn X + 1) (nI bh)) 1 0 23 = nI (xKn X + 1) := by rw [wI_j (by decide)]; exact e5
      rw [e7, st_eq]
      obtain ⟨w1, w2, w3⟩ := rkeep qN xN g hW q2 q3 q4 hC
      exact ⟨_, _, rfl, rfl, gf_trans (gz_y (rp_z gN)) w1, w2, w3⟩
    · rw [if_pos (show (200 : Int32) ≤ nI (xKn X) from (nI_lei (a := 200) (by decide) (by omega)).mpr (by omega))]
      refine ⟨N, 0, rfl, rfl, gz_y (rp_z gN), kN, ?_⟩
      unfold x_keep
      rw [if_neg g]
      exact xN
  | succ m ih =>
    intro y fu N e hf gN
    obtain ⟨fu, rfl⟩ : ∃ f, fu = f + 1 := ⟨fu - 1, by omega⟩
    have hN := gf_ps gN hQ.1
    have xN := rX2_p hX gN
    have kN := rp_kv gN hQ.2.1
    have e23 : mI N 1 0 23 = nI (xKn X) := xN.2.2.1.1
    have yk : y < xKn X := by omega
    have e11 : mI N 13 11 (y + 1) = nI (xKp X y).2.1 := xN.2.2.2.1.1 y yk
    have ky := hka y yk
    rw [f_M_lookAtKept_l2, e23, if_neg (fun z => by have := (nI_lti (by omega) (by omega)).mp z; omega), rs_60 hN, bd_some, rz_13_11 hN, gd_pos (ix_ok (by omega) (by decide)), nI_tn (by omega), e11, x_fst]
    rw [nI_s (y + 1)]
    by_cases a : (xKp X y).2.1 = xAt X
    · rw [if_pos (by rw [a])]
      obtain ⟨N1, q1, q2⟩ := rwithin hN kN (r := y + 1) (by omega)
      have g1 : rp R N1 := gf_trans gN q2
      rw [q1, b2_some]
      have iff : s_in (rv N (y + 1)) (rv N 0) ↔ s_in (xKp X y).1 (xNow X) := in_e (xN.1.2.1 y yk) xN.1.1
      rw [b1_c iff]
      by_cases w : s_in (xKp X y).1 (xNow X)
      · rw [if_neg (b1_n0 w), ic_t (show x_isK X y from ⟨a, w⟩)]
        have x1 := rX2_p hX g1
        rw [ropen (gf_ps g1 hQ.1) hK hW x1.2.2.1.2.1 x1.2.2.2.2.2 yk, b2_some]
        by_cases o : (xKp X y).2.2.1
        · rw [if_neg (b1_n0 o)]
          exact ⟨N1, 19, rfl, yk, g1, (ic_t o).symm⟩
        · rw [if_pos (b1_f o)]
          exact ⟨N1, -1, rfl, yk, g1, (ic_f o).symm⟩
      · rw [if_pos (b1_f w), ic_f (fun z => w z.2)]
        exact ih (y + 1) fu N1 (by omega) (by omega) g1
    · rw [if_neg (fun z => a (nI_inj (by omega) (by omega) z)), ic_f (fun z => a z.1)]
      exact ih (y + 1) fu N (by omega) (by omega) gN
theorem rlook (hQ : rQ p n mk nm kb vb R) (hX : rX2 n R X) (hK : xKn X ≤ 200) (hW : xWn X ≤ 200) (ha : xAt X < n) (hka : ∀ i, i < xKn X → (xKp X i).2.1 < n) : ∃ R1 r, f_M_lookAtKept R 0 (nI (xAt X)) = some (R1, r) ∧ lkP n R X (x_hit X) R1 r := by
  unfold f_M_lookAtKept
  exact rlook_l hQ hX hK hW ha hka (xKn X) 0 fuel R (by omega) (by unfold fuel; omega) gf_refl
end RK
