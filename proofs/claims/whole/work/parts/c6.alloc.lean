/-! PURE: the class makes a new State. -/
/-- counts of what belongs to States -/
def cnt (M : me_M) : Prop := mN M 18 = mN M 9 ∧ mN M 10 = 75 * mN M 9 + 1 ∧ mN M 11 = 75 * mN M 9 + 11
abbrev kS (k : Nat) : Prop := k = 9 ∨ k = 10 ∨ k = 11 ∨ k = 18
/-- what was there is as it was -/
def nfr (M M1 : me_M) : Prop := (∀ k j, (j < mN M k ∨ ¬ kS k) → mI M1 k j = mI M k j ∧ mL M1 k j = mL M k j ∧ mR M1 k j = mR M k j ∧ mZ M1 k j = mZ M k j) ∧ ∀ k, ¬ kS k → mN M1 k = mN M k
def nC (N : me_M) (s y : Nat) : me_M := wR (wR (nO (nO N 10) 11) 10 (mN N 10) 6 (some (mN N 11))) 18 s y (some (mN N 10))
section AL
variable {M N : me_M} {s y a b f k : Nat}
theorem nO_I (h : ¬ (a = k ∧ b = mN M k)) : mI (nO M k) a b = mI M a b := by funext f; exact if_neg h
theorem nO_L (h : ¬ (a = k ∧ b = mN M k)) : mL (nO M k) a b = mL M a b := by funext f; exact if_neg h
theorem nO_R (h : ¬ (a = k ∧ b = mN M k)) : mR (nO M k) a b = mR M a b := by funext f; exact if_neg h
theorem nO_I0 : mI (nO M k) k (mN M k) f = 0 := if_pos ⟨rfl, rfl⟩
theorem nO_N : mN (nO M k) = me_N1 (mN M) k := rfl
theorem nO_Z : mZ (nO M k) = mZ M := rfl
theorem nA_I {n : Nat} (h : ¬ (a = k ∧ b = mN M k)) : mI (nA M k n) a b = mI M a b := by funext f; exact if_neg h
theorem nA_L {n : Nat} (h : ¬ (a = k ∧ b = mN M k)) : mL (nA M k n) a b = mL M a b := by funext f; exact if_neg h
theorem nA_R {n : Nat} (h : ¬ (a = k ∧ b = mN M k)) : mR (nA M k n) a b = mR M a b := by funext f; exact if_neg h
theorem nA_Z {n : Nat} (h : ¬ (a = k ∧ b = mN M k)) : mZ (nA M k n) a b = mZ M a b := if_neg h
theorem nA_Z0 {n : Nat} : mZ (nA M k n) k (mN M k) = n := if_pos ⟨rfl, rfl⟩
theorem nA_N {n : Nat} : mN (nA M k n) = me_N1 (mN M) k := rfl
theorem N1_o {N : Nat → Nat} (h : ¬ a = k) : me_N1 N k a = N a := if_neg h
theorem N1_s {N : Nat → Nat} : me_N1 N k k = N k + 1 := if_pos rfl
theorem n10_11 : mN (nO N 10) 11 = mN N 11 := by rw [nO_N, N1_o (by decide)]
theorem nC_N : mN (nC N s y) = me_N1 (me_N1 (mN N) 10) 11 := by unfold nC; rw [pN_R, pN_R, nO_N, nO_N]
theorem nC_Z : mZ (nC N s y) = mZ N := by unfold nC; rw [pZ_R, pZ_R, nO_Z, nO_Z]
theorem nC_I (h1 : ¬ (a = 10 ∧ b = mN N 10)) (h2 : ¬ (a = 11 ∧ b = mN N 11)) : mI (nC N s y) a b = mI N a b := by
  unfold nC
  rw [pI_R, pI_R, nO_I (by rw [n10_11]; exact h2), nO_I h1]
theorem nC_L (h1 : ¬ (a = 10 ∧ b = mN N 10)) (h2 : ¬ (a = 11 ∧ b = mN N 11)) : mL (nC N s y) a b = mL N a b := by
  unfold nC
  rw [pL_R, pL_R, nO_L (by rw [n10_11]; exact h2), nO_L h1]
theorem nC_R (h1 : ¬ (a = 10 ∧ b = mN N 10)) (h2 : ¬ (a = 11 ∧ b = mN N 11)) (h3 : ¬ (a = 18 ∧ b = s ∧ f = y)) : mR (nC N s y) a b f = mR N a b f := by
  unfold nC
  rw [pR_R, if_neg h3, pR_R, if_neg (fun z => h1 ⟨z.1, z.2.1⟩), nO_R (by rw [n10_11]; exact h2), nO_R h1]
theorem nC_c : mI (nC N s y) 10 (mN N 10) f = 0 := by
  unfold nC
  rw [pI_R, pI_R, nO_I (fun z => absurd z.1 (by decide)), nO_I0]
theorem nC_6 : mR (nC N s y) 10 (mN N 10) 6 = some (mN N 11) := by
  unfold nC
  rw [pR_R, if_neg (fun z => absurd z.1 (by decide)), pR_R, if_pos ⟨rfl, rfl, rfl⟩]
theorem nC_18 : mR (nC N s y) 18 s y = some (mN N 10) := by
  unfold nC
  rw [pR_R, if_pos ⟨rfl, rfl, rfl⟩]
/-- a State half made: y cells -/
def hf (M : me_M) (y : Nat) (N : me_M) : Prop := mN N 9 = mN M 9 + 1 ∧ mN N 18 = mN M 9 + 1 ∧ mN N 10 = 75 * mN M 9 + 1 + y ∧ mN N 11 = 75 * mN M 9 + 11 + y ∧ me_cN (mN N) = me_cN (mN M) + 2 + 2 * y ∧ me_sN (mN N) = me_sN (mN M) + 80 + 13 * y ∧ mR N 9 (mN M 9) 0 = some (mN M 9) ∧ mZ N 18 (mN M 9) = 75 ∧ mI N 9 (mN M 9) 1 = 11 ∧ (∀ i, i < y → mR N 18 (mN M 9) i = some (75 * mN M 9 + i + 1) ∧ mR N 10 (75 * mN M 9 + i + 1) 6 = some (75 * mN M 9 + i + 11) ∧ ∀ f, mI N 10 (75 * mN M 9 + i + 1) f = 0) ∧ nfr M N
theorem hf_step (hc : cnt M) (h : hf M y N) : hf M (y + 1) (nC N (mN M 9) y) := by
  obtain ⟨h1, h2, h3, h4, h5, h6, h7, h8, h9, h10, h11, h12⟩ := h
  obtain ⟨c1, c2, c3⟩ := hc
  refine ⟨?_, ?_, ?_, ?_, ?_, ?_, ?_, ?_, ?_, ?_, ?_, ?_⟩
  · rw [nC_N, N1_o (by decide), N1_o (by decide)]; exact h1
  · rw [nC_N, N1_o (by decide), N1_o (by decide)]; exact h2
  · rw [nC_N, N1_o (by decide), N1_s, h3]; omega
  · rw [nC_N, N1_s, N1_o (by decide), h4]; omega
  · rw [nC_N, me_cN1 (by decide), me_cN1 (by decide), h5]; omega
  · rw [nC_N, me_sN1 (by decide), me_sN1 (by decide), h6, show me_sc 10 = 7 from by decide, show me_sc 11 = 6 from by decide]; omega
  · rw [nC_R (fun z => absurd z.1 (by decide)) (fun z => absurd z.1 (by decide)) (fun z => absurd z.1 (by decide))]; exact h7
  · rw [nC_Z]; exact h8
  · rw [nC_I (fun z => absurd z.1 (by decide)) (fun z => absurd z.1 (by decide))]; exact h9
  · intro i hi
    by_cases e : i = y
    · subst e
      have ec : mN N 10 = 75 * mN M 9 + i + 1 := by rw [h3]; omega
      have ed : mN N 11 = 75 * mN M 9 + i + 11 := by rw [h4]; omega
      rw [← ec, ← ed]
      exact ⟨nC_18, nC_6, fun f => nC_c⟩
    · obtain ⟨a1, a2, a3⟩ := h10 i (by omega)
      have nc : ¬ 75 * mN M 9 + i + 1 = mN N 10 := by rw [h3]; omega
      refine ⟨?_, ?_, fun f => ?_⟩
      · rw [nC_R (fun z => absurd z.1 (by decide)) (fun z => absurd z.1 (by decide)) (fun z => e z.2.2)]; exact a1
      · rw [nC_R (fun z => nc z.2) (fun z => absurd z.1 (by decide)) (fun z => absurd z.1 (by decide))]; exact a2
      · rw [nC_I (fun z => nc z.2) (fun z => absurd z.1 (by decide))]; exact a3 f
  · intro k j hk
    obtain ⟨a1, a2, a3, a4⟩ := h11 k j hk
    have n1' : ¬ (k = 10 ∧ j = mN N 10) := by
      rintro ⟨z1, z2⟩
      rcases hk with q | q
      · rw [z1] at q; omega
      · exact q (Or.inr (Or.inl z1))
    have n2' : ¬ (k = 11 ∧ j = mN N 11) := by
      rintro ⟨z1, z2⟩
      rcases hk with q | q
      · rw [z1] at q; omega
      · exact q (Or.inr (Or.inr (Or.inl z1)))
    have n3' : ∀ f, ¬ (k = 18 ∧ j = mN M 9 ∧ f = y) := by
      rintro f ⟨z1, z2, _⟩
      rcases hk with q | q
      · rw [z1] at q; omega
      · exact q (Or.inr (Or.inr (Or.inr z1)))
    refine ⟨by rw [nC_I n1' n2']; exact a1, by rw [nC_L n1' n2']; exact a2, ?_, by rw [nC_Z]; exact a4⟩
    funext f
    rw [nC_R n1' n2' (n3' f), a3]
  · intro k hk
    rw [nC_N, N1_o (fun z => hk (Or.inr (Or.inr (Or.inl z)))), N1_o (fun z => hk (Or.inr (Or.inl z)))]
    exact h12 k hk
theorem hf_loop (hc : cnt M) (fit : me_cN (mN M) + 152 ≤ me_CL ∧ me_sN (mN M) + 1055 ≤ me_SL) : ∀ (m y fu : Nat) (N : me_M), y + m = 75 → m < fu → hf M y N → ∃ M1, f_State_init_l21 (mN M 9) fu N (nI y) = some M1 ∧ hf M 75 M1 := by
  intro m
  induction m with
  | zero =>
    intro y fu N e hf1 h
    obtain ⟨fu, rfl⟩ : ∃ f, fu = f + 1 := ⟨fu - 1, by omega⟩
    rw [f_State_init_l21, if_pos (show (75 : Int32) ≤ nI y from (nI_lei (a := 75) (by decide) (by omega)).mpr (by omega))]
    rw [show y = 75 by omega] at h
    exact ⟨N, rfl, h⟩
  | succ m ih =>
    intro y fu N e hf1 h
    obtain ⟨fu, rfl⟩ : ∃ f, fu = f + 1 := ⟨fu - 1, by omega⟩
    have s10 : me_sc 10 = 7 := by decide
    have s11 : me_sc 11 = 6 := by decide
    obtain ⟨h1, h2, h3, h4, h5, h6, h7, h8, h9⟩ := h
    have f10 : me_fit N 10 := ⟨by omega, by rw [s10]; omega⟩
    have f11 : me_fit (nO N 10) 11 := by
      show me_cN (mN (nO N 10)) + 1 ≤ me_CL ∧ me_sN (mN (nO N 10)) + me_sc 11 ≤ me_SL
      rw [nO_N, me_cN1 (by decide), me_sN1 (by decide), s10, s11]
      omega
    rw [f_State_init_l21, if_neg (show ¬ (75 : Int32) ≤ nI y from fun z => by have := (nI_lei (a := 75) (by decide) (by omega)).mp z; omega), h7, bd_some, gd_pos f10, st_eq]
    have ci : f_Cell_init (nO N 10) (mN N 10) = some (wR (nO (nO N 10) 11) 10 (mN N 10) 6 (some (mN N 11))) := by
      unfold f_Cell_init f_Num_init
      rw [gd_pos f11, st_eq, bd_some, st_eq, n10_11]
    rw [ci, bd_some, pZ_R, nO_Z, nO_Z, h8, gd_pos (ix_ok (by omega) (by decide)), nI_tn (by omega), st_eq, nI_s]
    exact ih (y + 1) fu (nC N (mN M 9) y) (by omega) (by omega) (hf_step hc ⟨h1, h2, h3, h4, h5, h6, h7, h8, h9⟩)
theorem st_new (hs : ss M) (hc : cnt M) (fit : me_cN (mN M) + 152 ≤ me_CL ∧ me_sN (mN M) + 1055 ≤ me_SL) : me_fit M 9 ∧ ∃ M1, f_State_init (nO M 9) (mN M 9) = some M1 ∧ ss M1 ∧ cnt M1 ∧ mN M1 9 = mN M 9 + 1 ∧ us M1 (mN M 9) 11 ∧ (∀ i, i < 75 → sv M1 (mN M 9) i = s_bare 0) ∧ nfr M M1 ∧ me_cN (mN M1) = me_cN (mN M) + 152 ∧ me_sN (mN M1) = me_sN (mN M) + 1055 := by
  have s9 : me_sc 9 = 5 := by decide
  have s18 : me_sc 18 = 75 := by decide
  obtain ⟨c1, c2, c3⟩ := hc
  have f9 : me_fit M 9 := ⟨by omega, by rw [s9]; omega⟩
  refine ⟨f9, ?_⟩
  have e18 : mN (nO M 9) 18 = mN M 9 := by rw [nO_N, N1_o (by decide)]; exact c1
  have f18 : me_fit (nO M 9) 18 := by
    show me_cN (mN (nO M 9)) + 1 ≤ me_CL ∧ me_sN (mN (nO M 9)) + me_sc 18 ≤ me_SL
    rw [nO_N, me_cN1 (by decide), me_sN1 (by decide), s9, s18]
    omega
  unfold f_State_init
  rw [gd_pos ⟨by decide, by rw [s18]; decide, f18⟩, st_eq, st_eq, st_eq, e18]
  obtain ⟨A, hA⟩ : ∃ A, A = nA (nO M 9) 18 (75 : Int32).toNatClampNeg := ⟨_, rfl⟩
  obtain ⟨N, hN⟩ : ∃ N, N = wI (wR A 9 (mN M 9) 0 (some (mN M 9))) 9 (mN M 9) 1 11 := ⟨_, rfl⟩
  rw [← hA, ← hN]
  have nN : mN N = me_N1 (me_N1 (mN M) 9) 18 := by rw [hN, pN_I, pN_R, hA, nA_N, nO_N]
  have oI : ∀ a b, ¬ (a = 18 ∧ b = mN M 9) → ¬ (a = 9 ∧ b = mN M 9) → mI A a b = mI M a b := fun a b h1 h2 => by rw [hA, nA_I (by rw [e18]; exact h1), nO_I h2]
  have oL : ∀ a b, ¬ (a = 18 ∧ b = mN M 9) → ¬ (a = 9 ∧ b = mN M 9) → mL A a b = mL M a b := fun a b h1 h2 => by rw [hA, nA_L (by rw [e18]; exact h1), nO_L h2]
  have oR : ∀ a b, ¬ (a = 18 ∧ b = mN M 9) → ¬ (a = 9 ∧ b = mN M 9) → mR A a b = mR M a b := fun a b h1 h2 => by rw [hA, nA_R (by rw [e18]; exact h1), nO_R h2]
  have oZ : ∀ a b, ¬ (a = 18 ∧ b = mN M 9) → mZ A a b = mZ M a b := fun a b h1 => by rw [hA, nA_Z (by rw [e18]; exact h1), nO_Z]
  have h0 : hf M 0 N := by
    refine ⟨?_, ?_, ?_, ?_, ?_, ?_, ?_, ?_, ?_, fun i hi => absurd hi (Nat.not_lt_zero i), ?_, ?_⟩
    · rw [nN, N1_o (by decide), N1_s]
    · rw [nN, N1_s, N1_o (by decide), c1]
    · rw [nN, N1_o (by decide), N1_o (by decide), c2]
    · rw [nN, N1_o (by decide), N1_o (by decide), c3]
    · rw [nN, me_cN1 (by decide), me_cN1 (by decide)]
    · rw [nN, me_sN1 (by decide), me_sN1 (by decide), s9, s18]
    · rw [hN, pR_I, pR_R, if_pos ⟨rfl, rfl, rfl⟩]
    · rw [hN, pZ_I, pZ_R, hA, ← e18, nA_Z0]
      decide
    · rw [hN, pI_same]
    · intro k j hk
      have n1' : ¬ (k = 18 ∧ j = mN M 9) := by
        rintro ⟨z1, z2⟩
        rcases hk with q | q
        · rw [z1] at q; omega
        · exact q (Or.inr (Or.inr (Or.inr z1)))
      have n2' : ¬ (k = 9 ∧ j = mN M 9) := by
        rintro ⟨z1, z2⟩
        rcases hk with q | q
        · rw [z1] at q; omega
        · exact q (Or.inl z1)
      refine ⟨?_, ?_, ?_, ?_⟩
      · funext f
        rw [hN, pI_I, if_neg (fun z => n2' ⟨z.1, z.2.1⟩), pI_R, oI k j n1' n2']
      · rw [hN, pL_I, pL_R, oL k j n1' n2']
      · funext f
        rw [hN, pR_I, pR_R, if_neg (fun z => n2' ⟨z.1, z.2.1⟩), oR k j n1' n2']
      · rw [hN, pZ_I, pZ_R, oZ k j n1']
    · intro k hk
      rw [nN, N1_o (fun z => hk (Or.inr (Or.inr (Or.inr z)))), N1_o (fun z => hk (Or.inl z))]
  obtain ⟨M1, q1, q2⟩ := hf_loop ⟨c1, c2, c3⟩ fit 75 0 fuel N (by omega) (by unfold fuel; omega) h0
  obtain ⟨h1, h2, h3, h4, h5, h6, h7, h8, h9, h10, h11, h12⟩ := q2
  have view : ∀ i, i < 75 → sv M1 (mN M 9) i = s_bare 0 := by
    intro i hi
    obtain ⟨a1, a2, a3⟩ := h10 i hi
    unfold sv cv
    rw [a3, a3, a3, a3, a3, a3]
    rfl
  refine ⟨M1, q1, ⟨?_, ?_, ?_⟩, ⟨by omega, by omega, by omega⟩, h1, ⟨by decide, by decide, h9, fun i _ hi => view i hi⟩, view, ⟨h11, h12⟩, by omega, by omega⟩
  · intro s hs1
    by_cases e : s = mN M 9
    · rw [e]; exact ⟨h7, h8⟩
    · obtain ⟨a1, a2, a3, a4⟩ := h11 9 s (Or.inl (by omega))
      obtain ⟨b1', b2', b3', b4'⟩ := h11 18 s (Or.inl (by omega))
      rw [a3, b4']
      exact hs.1 s (by omega)
  · intro s i hs1 hi
    by_cases e : s = mN M 9
    · rw [e]; exact (h10 i hi).1
    · obtain ⟨b1', b2', b3', b4'⟩ := h11 18 s (Or.inl (by omega))
      rw [b3']
      exact hs.2.1 s i (by omega) hi
  · intro c hc1
    by_cases e : c < 75 * mN M 9 + 1
    · obtain ⟨b1', b2', b3', b4'⟩ := h11 10 c (Or.inl (by omega))
      rw [b3']
      exact hs.2.2 c e
    · obtain ⟨a1, a2, a3⟩ := h10 (c - (75 * mN M 9 + 1)) (by omega)
      rw [show 75 * mN M 9 + (c - (75 * mN M 9 + 1)) + 1 = c by omega, show 75 * mN M 9 + (c - (75 * mN M 9 + 1)) + 11 = c + 10 by omega] at a2
      rw [a2, nu_g (by omega)]
end AL
