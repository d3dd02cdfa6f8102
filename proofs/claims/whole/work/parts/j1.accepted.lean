/-! PURE: what was accepted runs, whole and shorter, from the beginning of a run. -/
section JAC
variable {p q : Nat → Int64} {n nm B : Nat} {tb mk : Nat → Prop} {en : Nat → Nat} {kb vb : Int32 → Int32} {W : tyU}
theorem run_nz : ∀ (m : Nat) (X : xT), ¬ (x_run p mk kb vb B m X).1 = 0 := by
  intro m
  induction m with
  | zero => intro X; show ¬ (20 : Int32) = 0; decide
  | succ m ih =>
    intro X
    rw [x_run]
    by_cases e : (x_turn p mk kb vb B X).1 = 0
    · rw [if_pos e]; exact ih _
    · rw [if_neg e]; exact e
theorem gam_first : gam nm en s_first (T0 W) (fun _ => 0) (fun _ => False) := by
  refine ⟨rfl, fun i => by show un 0 ≤ 65535; decide, fun i hi => ?_, fun i h1 h2 => ?_⟩
  · by_cases e1 : i = 1
    · have a : s_first i = (2, 0, 0, 0, 0, 0, fn_ex 0) := if_pos e1
      have b : tyC (T0 W) i = (2, 0, 0, 0) := if_pos e1
      rw [a, b]
      exact gm_2 rfl ⟨rfl, rfl⟩
    · by_cases e2 : i = 10
      · have a : s_first i = (3, 0, 0, 0, 0, 0, fn_ex 0) := by unfold s_first; rw [if_neg e1, if_pos e2]
        have b : tyC (T0 W) i = (3, 0, 0, 0) := by
          show (if i = 1 then ((2, 0, 0, 0) : tyV) else if i = 10 then (3, 0, 0, 0) else (0, 0, 0, 0)) = _
          rw [if_neg e1, if_pos e2]
        rw [a, b]
        exact gm_3 rfl ⟨rfl, rfl⟩
      · have a : s_first i = s_bare 0 := by unfold s_first; rw [if_neg e1, if_neg e2]
        rw [a]
        exact gm_0 rfl
  · intro _ b hb hw
    have a : s_first i = s_bare 0 := by unfold s_first; rw [if_neg (by omega), if_neg (by omega)]
    rw [a] at hw
    have t : ∀ b, b < 8 → ib 0 b = false := by decide
    have hw : ib 0 b = true := hw
    rw [t b hb] at hw
    exact absurd hw (by decide)
/-- what the fault 0 says -/
theorem pr_0 (h : (g_pr p n nm kb vb B).1 = 0) : (f_form p n (nI nm)).1 = 0 ∧ (x_all p (f_mk p n) kb vb B).1 = -1 ∧ (g_pr p n nm kb vb B).2.2 = (x_all p (f_mk p n) kb vb B).2 := by
  unfold g_pr at h ⊢
  by_cases e : (f_form p n (nI nm)).1 = 0
  · rw [if_pos e] at h ⊢
    by_cases e2 : (x_all p (f_mk p n) kb vb B).1 = -1
    · rw [if_pos e2]
      exact ⟨e, e2, rfl⟩
    · rw [if_neg e2] at h
      exact absurd h (run_nz _ _)
  · rw [if_neg e] at h
    exact absurd h e
theorem acc_run (h0 : 0 < n) (hn : n ≤ 2000) (hB : B ≤ 20000) (hm : mpz nm kb vb en) (h : (g_pr p n nm kb vb B).1 = 0) (hZ : uZ W ≤ 2000) (hq : ∀ t, t < n → z_S p (xFa (g_pr p n nm kb vb B).2.2) n t → q (z_np p (xFa (g_pr p n nm kb vb B).2.2) n t) = z_wd p (xFa (g_pr p n nm kb vb B).2.2) n t) : ∃ k T1 N N2, k ≤ 20000 ∧ (tyC T1 0).1 = 1 ∧ gRun p n nm tb kb vb en k (T0 W) 0 T1 N ∧ gRun q (z_np p (xFa (g_pr p n nm kb vb B).2.2) n n) nm tb kb vb en k (T0 W) 0 T1 N2 := by
  obtain ⟨e1, e2, e3⟩ := pr_0 h
  have hp := form_pF h0 hn hm.1 e1
  have hs := form_pSw e1
  obtain ⟨⟨τ, c1, c2⟩, c3⟩ := all_safe (mk := f_mk p n) (kb := kb) (vb := vb) hp hB e2
  rw [e3] at hq ⊢
  obtain ⟨θ, nu2, mu2, d1, d2⟩ := Cv_ok (en := en) (T := T0 W) gam_first ⟨τ, c1, c2⟩
  obtain ⟨T1, N, N2, r1, r2, r3, r4, r5, r6⟩ := both_g (tb := tb) hp hs hm hq _ _ _ _ _ _ d1 d2 hZ
  exact ⟨_, T1, N, N2, Nat.le_trans c3 hB, r5, r1, r2⟩
end JAC
