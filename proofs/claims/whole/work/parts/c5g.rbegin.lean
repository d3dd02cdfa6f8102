/-! PURE: the reference begins to explore. -/
section RG
variable {p : Nat → Int64} {n nm B : Nat} {sec mk : Nat → Prop} {kb vb : Int32 → Int32} {X : xT} {c : Int64} {R R1 M M1 N : me_M}
theorem kv_ii0 {i : Nat} (h : kv M) : kv (ii M i 0 0 0 0 0) := kv_ii (n := 0) h (by decide)
theorem ii_kd {i x : Nat} {k p m d r : Int32} : mI (ii M i k p m d r) 14 8 x = if x = i then k else mI M 14 8 x := by
  unfold ii
  rw [wI_j (by decide), wI_j (by decide), wI_j (by decide), wI_j (by decide), pI_I]
  by_cases e : x = i
  · rw [if_pos ⟨rfl, rfl, e⟩, if_pos e]
  · rw [if_neg (fun z => e z.2.2), if_neg e]
theorem rbeg_w (hR : ps_M R) : ∀ (m y fu : Nat) (N : me_M), y + m = 64 → m < fu → rG rX w64 R N → kv N → (∀ x, x < 75 → mI N 14 8 x = 0) → (∀ x, x < y → mI N 13 10 x = 0) → ∃ R1, f_M_begin_l21 0 fu N (nI y) = some R1 ∧ rG rX w64 R R1 ∧ kv R1 ∧ mI R1 1 0 59 = 0 ∧ e75 (rv R1 0) s_first := by
  intro m
  induction m with
  | zero =>
    intro y fu N e hf g hk k0 w0
    obtain ⟨fu, rfl⟩ : ∃ f, fu = f + 1 := ⟨fu - 1, by omega⟩
    have hN := rG_ps g hR
    rw [f_M_begin_l21, if_pos (show (64 : Int32) ≤ nI y from (nI_lei (a := 64) (by decide) (by omega)).mpr (by omega)), show f_M_setKind N 0 (1 : Int32) (2 : Int32) = some (ii N 1 (nI 2) 0 0 0 0) from pi_setKind hN (ok_n (i := 1) (by decide)) (n := 2) (by decide), bd_some, show f_M_setKind (ii N 1 (nI 2) 0 0 0 0) 0 (10 : Int32) (3 : Int32) = some (ii (ii N 1 (nI 2) 0 0 0 0) 10 (nI 3) 0 0 0 0) from pi_setKind (ps_ii hN) (ok_n (i := 10) (by decide)) (n := 3) (by decide), bd_some, st_eq]
    obtain ⟨A, hA⟩ : ∃ A, A = ii (ii N 1 (nI 2) 0 0 0 0) 10 (nI 3) 0 0 0 0 := ⟨_, rfl⟩
    rw [← hA]
    have fA : rf rX mT N A := by rw [hA]; exact rf_trans (rf_ii (Or.inl (by decide))) (rf_ii (Or.inl (by decide)))
    have gA : rG rX w64 N A := rG_f (rf_mono fA (fun _ z => z) (fun _ z => z.elim))
    refine ⟨_, rfl, rG_trans g (rG_trans gA rG_59), kv_w n1 (by rw [hA]; exact kv_ii (kv_ii hk (by decide)) (by decide)), pI_same, ?_⟩
    intro i hi
    rw [rv_1]
    have kA : ∀ x, x < 75 → mI A 14 8 x = if x = 10 then 3 else if x = 1 then 2 else 0 := by
      intro x hx
      rw [hA, ii_kd, ii_kd, k0 x hx]
      rfl
    have wA : ∀ x, x < 64 → mI A 13 10 x = 0 := fun x hx => by rw [rf_w fA]; exact w0 x (by omega)
    by_cases h : i < 11
    · rw [rv_r h]
      unfold it
      rw [kA i (by omega)]
      by_cases h10 : i = 10
      · rw [if_pos h10, cn3]
        have e6 : mI A 13 6 i = 0 := by
          rw [h10, hA]
          unfold ii
          rw [wI_j (by decide), wI_j (by decide), wI_j (by decide), pI_same]
        rw [e6, h10]
        rfl
      · rw [if_neg h10]
        by_cases h1 : i = 1
        · rw [if_pos h1, cn2]
          have e6 : mI A 13 6 i = 0 := by
            rw [h1, hA]
            unfold ii
            rw [wI_j (by decide), wI_j (by decide), wI_j (by decide), pI_place (by decide), wI_j (by decide), wI_j (by decide), wI_j (by decide), wI_j (by decide), pI_same]
          rw [e6, h1]
          rfl
        · rw [if_neg h1]
          unfold s_first
          rw [if_neg h1, if_neg h10]
          rfl
    · rw [rv_g (by omega)]
      unfold it
      rw [kA _ (by omega), if_neg (by omega), if_neg (by omega), wA _ (by omega)]
      unfold s_first
      rw [if_neg (by omega), if_neg (by omega)]
      rfl
  | succ m ih =>
    intro y fu N e hf g hk k0 w0
    obtain ⟨fu, rfl⟩ : ∃ f, fu = f + 1 := ⟨fu - 1, by omega⟩
    have hN := rG_ps g hR
    rw [f_M_begin_l21, if_neg (show ¬ (64 : Int32) ≤ nI y from fun z => by have := (nI_lei (a := 64) (by decide) (by omega)).mp z; omega), rs_58 hN, bd_some, rz_13_10 hN, gd_pos (ix_ok (by omega) (by decide)), nI_tn (by omega), st_eq, nI_s]
    refine ih (y + 1) fu _ (by omega) (by omega) (rG_trans g (rG_f (rf_W (show w64 y from by show y < 64; omega)))) (kv_W hk) (fun x hx => by rw [wI_j (by decide)]; exact k0 x hx) (fun x hx => ?_)
    by_cases e2 : x = y
    · rw [e2, pI_same]
    · rw [pI_place e2]; exact w0 x (by omega)
theorem rbeg_i (hR : ps_M R) : ∀ (m y fu : Nat) (N : me_M), y + m = 75 → m < fu → rG rX w64 R N → kv N → (∀ x, x < y → mI N 14 8 x = 0) → ∃ R1, f_M_begin_l2 0 fu N (nI y) = some R1 ∧ rG rX w64 R R1 ∧ kv R1 ∧ mI R1 1 0 59 = 0 ∧ e75 (rv R1 0) s_first := by
  intro m
  induction m with
  | zero =>
    intro y fu N e hf g hk k0
    obtain ⟨fu, rfl⟩ : ∃ f, fu = f + 1 := ⟨fu - 1, by omega⟩
    rw [f_M_begin_l2, if_pos (show (75 : Int32) ≤ nI y from (nI_lei (a := 75) (by decide) (by omega)).mpr (by omega))]
    exact rbeg_w hR 64 0 fuel N (by omega) (by unfold fuel; omega) g hk (fun x hx => k0 x (by omega)) (fun x hx => by omega)
  | succ m ih =>
    intro y fu N e hf g hk k0
    obtain ⟨fu, rfl⟩ : ∃ f, fu = f + 1 := ⟨fu - 1, by omega⟩
    have hN := rG_ps g hR
    rw [f_M_begin_l2, if_neg (show ¬ (75 : Int32) ≤ nI y from fun z => by have := (nI_lei (a := 75) (by decide) (by omega)).mp z; omega), pi_clear hN (ok_n (by omega)), bd_some, nI_s]
    refine ih (y + 1) fu _ (by omega) (by omega) (rG_trans g (rG_f (rf_ii (Or.inl (by omega))))) (kv_ii0 hk) (fun x hx => ?_)
    rw [ii_kd]
    by_cases e2 : x = y
    · rw [if_pos e2]
    · rw [if_neg e2]; exact k0 x (by omega)
theorem rbegin (hR : ps_M R) (hk : kv R) : ∃ R1, f_M_begin R 0 = some R1 ∧ rG rX w64 R R1 ∧ kv R1 ∧ mI R1 1 0 59 = 0 ∧ e75 (rv R1 0) s_first := by
  unfold f_M_begin
  exact rbeg_i hR 75 0 fuel R (by omega) (by unfold fuel; omega) rG_refl hk (fun x hx => by omega)
/-- the beginning -/
def x_0 : xT := (s_first, 0, 0, 0, fun _ => (s_first, 0, False, 0), 0, fun _ => (s_first, 0), 0, 0, 0, fun _ => 0, fun _ => False, fun _ => False, fun _ => 0, fun _ => 0)
theorem x0_ok (hF : pF p n sec nm) : x_ok n sec nm B x_0 := by
  refine ⟨hF.2.1, hF.2.2.1, ?_, Nat.zero_le _, Nat.zero_le _, fun i hi => absurd hi (Nat.not_lt_zero i), Nat.zero_le _, Nat.zero_le _, fun i hi => absurd hi (Nat.not_lt_zero i)⟩
  intro i hi
  show c_wf nm (s_first i)
  unfold s_first
  by_cases h1 : i = 1
  · rw [if_pos h1]; exact ⟨by decide, fun z => absurd z (by decide), by decide⟩
  · rw [if_neg h1]
    by_cases h2 : i = 10
    · rw [if_pos h2]; exact ⟨by decide, fun z => absurd z (by decide), by decide⟩
    · rw [if_neg h2]; exact wf_bare
/-- the exploring of a program -/
noncomputable def x_all (p : Nat → Int64) (mk : Nat → Prop) (kb vb : Int32 → Int32) (B : Nat) : Int32 × xT := x_run p mk kb vb B (2 * B + 1) x_0
theorem rexplore (hF : pF p n sec nm) (hkb : kbO nm kb vb) (hB : B ≤ 20000) (hQ : rQ p n mk nm kb vb R) (h0 : mI R 1 0 22 = 0 ∧ mI R 1 0 23 = 0 ∧ mI R 1 0 24 = 0 ∧ mI R 1 0 25 = 0 ∧ mI R 1 0 62 = 0) (hf : rFac n R (xFa x_0)) : ∃ R1, f_M_explore R 0 (nI B) = some (R1, if (x_all p mk kb vb B).1 = -1 then 0 else (x_all p mk kb vb B).1) ∧ gf lA yB R R1 ∧ kv R1 ∧ rFin n R1 (x_all p mk kb vb B).2 ∧ (¬ (x_all p mk kb vb B).1 = -1 → mI R1 1 0 21 = nI (xAt (x_all p mk kb vb B).2)) := by
  obtain ⟨N, q1, q2, q3, q4, q5⟩ := rbegin hQ.1 hQ.2.1
  have zN := rG_z q2
  unfold f_M_explore
  rw [q1, bd_some, st_eq]
  obtain ⟨A, hA⟩ : ∃ A, A = wI N 1 0 65 0 := ⟨_, rfl⟩
  rw [← hA]
  have y1 : gy R A := by rw [hA]; exact gf_trans (gz_y zN) (gf_I (Or.inr (Or.inr (Or.inr ⟨rfl, rfl, by omega⟩))))
  have kA : kv A := by rw [hA]; exact kv_w n1 q3
  have i1 : ∀ f, ¬ f = 65 → ¬ (f = 59 ∨ f = 68 ∨ f = 69 ∨ f = 70) → mI A 1 0 f = mI R 1 0 f := fun f a b => by rw [hA, pI_place a, gz_1 zN b]
  have xA : rX2 n A x_0 := by
    refine ⟨⟨?_, fun i hi => absurd hi (Nat.not_lt_zero i), fun i hi => absurd hi (Nat.not_lt_zero i)⟩, ?_, ⟨?_, ?_, ?_, ?_, ?_⟩, ⟨fun i hi => absurd hi (Nat.not_lt_zero i), fun i hi => absurd hi (Nat.not_lt_zero i)⟩, ?_, ?_⟩
    · rw [hA, rv_w n1 (by decide)]; exact q5
    · rw [hA, pI_place (by decide)]; exact q4
    · rw [i1 _ (by decide) (by decide)]; exact h0.2.1
    · rw [i1 _ (by decide) (by decide)]; exact h0.2.2.2.2
    · rw [i1 _ (by decide) (by decide)]; exact h0.1
    · rw [i1 _ (by decide) (by decide)]; exact h0.2.2.1
    · rw [i1 _ (by decide) (by decide)]; exact h0.2.2.2.1
    · rw [hA]; exact fac_1 (fac_z zN hf)
    · refine ⟨0, fun _ => 0, fun _ => 0, fun b k => b = k, by rw [hA, pI_same]; rfl, Nat.le_refl _, fun k a b => ?_, fun w hw => absurd hw (Nat.not_lt_zero w), fun b k a b2 => ?_, fun i hi => absurd hi (Nat.not_lt_zero i), fun w i hw => absurd hw (Nat.not_lt_zero w), fun i hi => absurd hi (Nat.not_lt_zero i)⟩
      · have : k ≤ 0 := b
        omega
      · have : b ≤ 0 := b2
        exact ⟨Or.inl, fun z => z.elim id (fun q => by have := q.1; omega)⟩
  obtain ⟨R1, w1, w2, w3⟩ := rloop (mk := mk) hF hkb hB (2 * B + 1) x_0 A fuel (by unfold x_left; show 2 * (B - 0) + 0 + 1 ≤ _; omega) (by unfold fuel; omega) (rQ_y hQ y1 kA) xA (x0_ok hF)
  exact ⟨R1, w1, gf_trans (gy_l y1) w2, w3⟩
end RG
