/-! PURE: calls that only tell: code, packetAt, ran, told, count, clock. -/
section JRE
variable {M R : me_M} {x y : Int32}
theorem np_sur {p : Nat → Int64} {F : xF} {n : Nat} : ∀ (m k : Nat), k < z_np p F n m → ∃ t, t < m ∧ z_S p F n t ∧ z_np p F n t = k := by
  intro m
  induction m with
  | zero => intro k h; exact absurd h (Nat.not_lt_zero k)
  | succ m ih =>
    intro k h
    by_cases S : z_S p F n m
    · rw [np_s S] at h
      by_cases e : k = z_np p F n m
      · exact ⟨m, by omega, S, e.symm⟩
      · obtain ⟨t, t1, t2, t3⟩ := ih k (by omega)
        exact ⟨t, by omega, t2, t3⟩
    · rw [np_n S] at h
      obtain ⟨t, t1, t2, t3⟩ := ih k h
      exact ⟨t, by omega, t2, t3⟩
theorem J_code (h : Iv M R) (hy : y = 0 ∨ y = 1) : (∃ M1 R2 rb, 0 < mZ M1 16 5 ∧ f_Law_code M 0 x y 5 = some (M1, 0) ∧ f_M_code R 0 x y = some (R2, rb) ∧ f_M_thrown R2 0 = some (R2, 0) ∧ mL M1 16 5 0 = rb ∧ Iv M1 R2) ∨ (∃ R2 rb, fT3_G_code M 0 x y = some M ∧ f_M_code R 0 x y = some (R2, rb) ∧ f_M_thrown R2 0 = some (R2, 1) ∧ Iv M R2) := by
  have h2 := h
  obtain ⟨nm, g, tn, jt, tb, kb, vb, en, jk, jv, jh, W, hc, hr, hb, hp⟩ := h2
  obtain ⟨⟨a1, a2, a3, a4⟩, ⟨u1, u2, u3, u4, u5, u6, u7, u8⟩, _⟩ := hc.1
  have z16 : mZ M 16 5 = 1 := hc.2.2.2.2.1.2.2
  have hps := hr.1
  have no : f_M_code_b35 0 x y R 0 = some (wI R 1 0 0 1, 0) := by
    unfold f_M_code_b35 f_M_code_b36
    rw [st_eq, pI_same, if_neg (by decide)]
  have bad : fT3_G_code M 0 x y = some M → f_M_code R 0 x y = f_M_code_b35 0 x y R 0 → (∃ M1 R2 rb, 0 < mZ M1 16 5 ∧ f_Law_code M 0 x y 5 = some (M1, 0) ∧ f_M_code R 0 x y = some (R2, rb) ∧ f_M_thrown R2 0 = some (R2, 0) ∧ mL M1 16 5 0 = rb ∧ Iv M1 R2) ∨ (∃ R2 rb, fT3_G_code M 0 x y = some M ∧ f_M_code R 0 x y = some (R2, rb) ∧ f_M_thrown R2 0 = some (R2, 1) ∧ Iv M R2) := fun u v => Or.inr ⟨_, _, u, by rw [v, no], thr_0, Iv_thr h⟩
  have t3 : ∀ {P : Option me_M}, fT3_G_code_b15 0 x M 0 = P → fT3_G_code_b15 0 x M 1 = P → fT3_G_code M 0 x y = P := by
    intro P q0 q1
    unfold fT3_G_code
    rcases hy with e | e
    · rw [if_pos e, a1, bd_some, q0]
    · rw [if_neg (by rw [e]; decide), a2, bd_some, q1]
  have g12 : mI M 0 0 12 = 0 → fT3_G_code M 0 x y = some M := fun z => t3 (by unfold fT3_G_code_b15; rw [if_pos z]) (by unfold fT3_G_code_b15; rw [if_pos z])
  rcases hp with ⟨z1, z2, z3, z4, z5⟩ | ⟨p, n, B, gg, z1, z2, z3, z4⟩
  · exact bad (g12 z3) (by unfold f_M_code; rw [if_pos z4])
  obtain ⟨c1, c2, c3, c4, _, c9, c10, c11, c12, c13⟩ := z2
  obtain ⟨d1, d2, d3, d4, _, d9, d10, d11, d12⟩ := z3
  by_cases g0 : ¬ gg.1 = 0
  · rw [b1_f g0] at c4 d4
    exact bad (g12 c4) (by unfold f_M_code; rw [if_pos d4])
  have g0 : gg.1 = 0 := Classical.not_not.mp g0
  rw [b1_t g0] at c4 d4
  obtain ⟨c14, c15⟩ := c12 g0
  obtain ⟨d14, d15, d16, d17, d18⟩ := d11 g0
  have q12 : ¬ mI M 0 0 12 = 0 := by rw [c4]; decide
  have q19 : ¬ mI R 1 0 19 = 0 := by rw [d4]; decide
  have n2k := z1.2.1
  have npl := np_le (p := p) (F := xFa gg.2.2) (n := n) (s := n)
  by_cases n0 : x < 0
  · refine bad (t3 ?_ ?_) ?_
    · unfold fT3_G_code_b15; rw [if_neg q12, if_pos n0]
    · unfold fT3_G_code_b15; rw [if_neg q12, if_pos n0]
    · unfold f_M_code; rw [if_neg q19, if_pos n0]
  have nle : ∀ {k : Nat}, ¬ x < nI k → nI k ≤ x := fun {k} z => by
    rw [i32_lt] at z
    rw [i32_le]
    omega
  have fin : ∀ {M1 : me_M} {v : Int64}, f_G_code M 0 x y = some (M, v) → f_M_code R 0 x y = some (wI R 1 0 0 0, v) → (∃ M1 R2 rb, 0 < mZ M1 16 5 ∧ f_Law_code M 0 x y 5 = some (M1, 0) ∧ f_M_code R 0 x y = some (R2, rb) ∧ f_M_thrown R2 0 = some (R2, 0) ∧ mL M1 16 5 0 = rb ∧ Iv M1 R2) ∨ (∃ R2 rb, fT3_G_code M 0 x y = some M ∧ f_M_code R 0 x y = some (R2, rb) ∧ f_M_thrown R2 0 = some (R2, 1) ∧ Iv M R2) := by
    intro M1 v v1 v2
    refine Or.inl ⟨wL M 16 5 0 v, wI R 1 0 0 0, v, by show 0 < mZ M 16 5; rw [z16]; decide, ?_, v2, thr_0, pL_same, Iv_out (Iv_thr h)⟩
    unfold f_Law_code
    rw [v1, b2_some, z16, gd_pos (by decide), st_eq]
  rcases hy with e | e
  · by_cases n1 : nI n ≤ x
    · refine bad ?_ ?_
      · unfold fT3_G_code fT3_G_code_b15
        rw [if_pos e, a1, bd_some, if_neg q12, if_neg n0, c10, if_neg (by rw [i32_le] at n1; rw [i32_lt]; omega)]
      · unfold f_M_code f_M_code_b28
        rw [if_neg q19, if_neg n0, if_pos e, d14, if_pos n1]
    · obtain ⟨s, hs, es⟩ := of_rng n0 n1 (by omega)
      have gs : ¬ (nI s < 0 ∨ 2000 ≤ s) := fun z => z.elim (nI_ps (by omega)) (fun q => by omega)
      refine fin (M1 := M) (v := p s) ?_ ?_
      · unfold f_G_code f_G_code_b15
        rw [if_pos e, a1, bd_some, if_neg q12, if_neg n0, c10, if_pos (by rw [i32_le] at n1; rw [i32_lt]; omega), u1, bd_some, es, nI_tn (by omega), u2, gd_pos gs, c11 s hs]
      · unfold f_M_code f_M_code_b28 f_M_code_b36
        rw [if_neg q19, if_neg n0, if_pos e, d14, if_neg n1, st_eq, pI_same, if_pos (by decide), if_pos e, rs_16 hps, bd_some, es, nI_tn (by omega), rz_16_1 hps, gd_pos gs, pL_I, d15 s hs]
  · have ne : ¬ y = 0 := by rw [e]; decide
    by_cases n1 : nI (z_np p (xFa gg.2.2) n n) ≤ x
    · refine bad ?_ ?_
      · unfold fT3_G_code fT3_G_code_b15
        rw [if_neg ne, a2, bd_some, if_neg q12, if_neg n0, c14, if_neg (by rw [i32_le] at n1; rw [i32_lt]; omega)]
      · unfold f_M_code f_M_code_b28
        rw [if_neg q19, if_neg n0, if_neg ne, d16, if_pos n1]
    · obtain ⟨s, hs, es⟩ := of_rng n0 n1 (by omega)
      have gs : ¬ (nI s < 0 ∨ 2000 ≤ s) := fun z => z.elim (nI_ps (by omega)) (fun q => by omega)
      obtain ⟨t, t1, t2, t3⟩ := np_sur n s hs
      refine fin (M1 := M) (v := z_wd p (xFa gg.2.2) n t) ?_ ?_
      · unfold f_G_code f_G_code_b15
        rw [if_neg ne, a2, bd_some, if_neg q12, if_neg n0, c14, if_pos (by rw [i32_le] at n1; rw [i32_lt]; omega), u7, bd_some, es, nI_tn (by omega), u8, gd_pos gs, ← t3, c15 t t1 t2]
      · unfold f_M_code f_M_code_b28 f_M_code_b36
        rw [if_neg q19, if_neg n0, if_neg ne, d16, if_neg n1, st_eq, pI_same, if_pos (by decide), if_neg ne, rs_17 hps, bd_some, es, nI_tn (by omega), rz_16_2 hps, gd_pos gs, pL_I, ← t3, d18 t t1 t2]
theorem J_packetAt (h : Iv M R) : (∃ M1 R2 rb, 0 < mZ M1 16 5 ∧ f_Law_packetAt M 0 x 5 = some (M1, 0) ∧ f_M_packetAt R 0 x = some (R2, rb) ∧ f_M_thrown R2 0 = some (R2, 0) ∧ mL M1 16 5 0 = rb.toInt64 ∧ Iv M1 R2) ∨ (∃ R2 rb, fT3_G_packetAt M 0 x = some M ∧ f_M_packetAt R 0 x = some (R2, rb) ∧ f_M_thrown R2 0 = some (R2, 1) ∧ Iv M R2) := by
  have h2 := h
  obtain ⟨nm, g, tn, jt, tb, kb, vb, en, jk, jv, jh, W, hc, hr, hb, hp⟩ := h2
  have z16 : mZ M 16 5 = 1 := hc.2.2.2.2.1.2.2
  have r8 : mR M 0 0 8 = some 0 := hc.2.2.2.2.1.1.2.2
  have hps := hr.1
  obtain ⟨⟨⟨⟨_, _, _, _, _, _, _, r7, _⟩, ⟨_, _, z3, _, _⟩, _, _⟩, _⟩, hmo, _⟩ := hc.2.1
  have hmr := hr.2.2.1.2.1
  have e1 : mI M 5 0 8 = nI (uZ W) := hmo.2.2.2.1.1
  have e2 : mI R 1 0 34 = nI (uZ W) := hmr.2.2.2.1.1
  have zl : uZ W ≤ 2000 := hmo.2.2.2.1.2
  have no : f_M_packetAt_b17 0 x R 0 = some (wI R 1 0 0 1, 0) := by
    unfold f_M_packetAt_b17
    rw [st_eq, pI_same, if_neg (by decide)]
  by_cases n0 : x < 0
  · refine Or.inr ⟨wI R 1 0 0 1, 0, ?_, ?_, thr_0, Iv_thr h⟩
    · unfold fT3_G_packetAt; rw [if_pos n0]
    · unfold f_M_packetAt; rw [if_pos n0, no]
  by_cases n1 : nI (uZ W) ≤ x
  · refine Or.inr ⟨wI R 1 0 0 1, 0, ?_, ?_, thr_0, Iv_thr h⟩
    · unfold fT3_G_packetAt; rw [if_neg n0, r8, bd_some, e1, if_neg (by rw [i32_le] at n1; rw [i32_lt]; omega)]
    · unfold f_M_packetAt; rw [if_neg n0, e2, if_pos n1, no]
  obtain ⟨s, hs, es⟩ := of_rng n0 n1 (by omega)
  have gs : ¬ (nI s < 0 ∨ 2000 ≤ s) := fun z => z.elim (nI_ps (by omega)) (fun q => by omega)
  refine Or.inl ⟨wL M 16 5 0 (uP W s &&& 255).toInt64, wI R 1 0 0 0, uP W s &&& 255, by show 0 < mZ M 16 5; rw [z16]; decide, ?_, ?_, thr_0, pL_same, Iv_out (Iv_thr h)⟩
  · unfold f_Law_packetAt f_G_packetAt
    rw [if_neg n0, r8, bd_some, e1, if_pos (by rw [i32_le] at n1; rw [i32_lt]; omega), r7, bd_some, es, nI_tn (by omega), z3, gd_pos gs, b2_some, z16, gd_pos (by decide), st_eq, hmo.2.2.1 s (by omega)]
    rfl
  · unfold f_M_packetAt
    rw [if_neg n0, e2, if_neg n1, st_eq, pI_same, if_pos (by decide), rs_35 hps, bd_some, es, nI_tn (by omega), rz_14_3 hps, gd_pos gs, wI_j (fun z => absurd z.1 (by decide)), hmr.2.2.1 s (by omega)]
    rfl
theorem J_ran (h : Iv M R) : ∃ r R1, f_G_ran M 0 x = some (M, r) ∧ f_M_ran R 0 x = some (R1, r) ∧ Iv M R1 := by
  have h2 := h
  obtain ⟨nm, g, tn, jt, tb, kb, vb, en, jk, jv, jh, W, hc, hr, ⟨_, _, ⟨b1, b2, b3, b4⟩, _⟩, hp⟩ := h2
  have r8 : mR M 0 0 8 = some 0 := hc.2.2.2.2.1.1.2.2
  unfold f_G_ran f_M_ran
  rw [r8, bd_some, st_eq, pI_place (by decide), pI_place (by decide), pI_place (by decide), pI_place (by decide), b1, b2, b3, b4]
  by_cases q : mI R 1 0 40 = 0
  · rw [if_pos q, if_pos q]; exact ⟨_, _, rfl, rfl, Iv_thr h⟩
  rw [if_neg q, if_neg q]
  by_cases e0 : x = 0
  · rw [if_pos e0, if_pos e0]; exact ⟨_, _, rfl, rfl, Iv_thr h⟩
  rw [if_neg e0, if_neg e0]
  by_cases e1 : x = 1
  · rw [if_pos e1, if_pos e1]; exact ⟨_, _, rfl, rfl, Iv_thr h⟩
  rw [if_neg e1, if_neg e1]
  by_cases e2 : x = 2
  · rw [if_pos e2, if_pos e2]; exact ⟨_, _, rfl, rfl, Iv_thr h⟩
  rw [if_neg e2, if_neg e2]
  exact ⟨_, _, rfl, rfl, Iv_thr h⟩
theorem J_told (h : Iv M R) : (∃ M1 R2 rb, 0 < mZ M1 16 5 ∧ f_Law_told M 0 x 5 = some (M1, 0) ∧ f_M_told R 0 x = some (R2, rb) ∧ f_M_thrown R2 0 = some (R2, 0) ∧ mL M1 16 5 0 = rb ∧ Iv M1 R2) ∨ (∃ R2 rb, fT3_G_told M 0 x = some M ∧ f_M_told R 0 x = some (R2, rb) ∧ f_M_thrown R2 0 = some (R2, 1) ∧ Iv M R2) := by
  have h2 := h
  obtain ⟨nm, g, tn, jt, tb, kb, vb, en, jk, jv, jh, W, hc, hr, hb, hp⟩ := h2
  have z16 : mZ M 16 5 = 1 := hc.2.2.2.2.1.2.2
  have r8 : mR M 0 0 8 = some 0 := hc.2.2.2.2.1.1.2.2
  have hps := hr.1
  obtain ⟨⟨⟨⟨_, _, _, _, _, _, _, _, r9⟩, ⟨_, _, _, _, z5⟩, _, _⟩, _⟩, hmo, _⟩ := hc.2.1
  have hmr := hr.2.2.1.2.1
  have e1 : mI M 5 0 10 = nI (uN W) := hmo.2.2.2.2.1.1
  have e2 : mI R 1 0 38 = nI (uN W) := hmr.2.2.2.2.1.1
  have zl : uN W ≤ 1000 := hmo.2.2.2.2.1.2.1
  by_cases n0 : x < 0
  · refine Or.inr ⟨wI R 1 0 0 1, 0, ?_, ?_, thr_0, Iv_thr h⟩
    · unfold fT3_G_told; rw [if_pos n0]
    · unfold f_M_told; rw [if_pos n0, st_eq, pI_same, if_neg (by decide)]
  by_cases n1 : nI (uN W) ≤ x
  · refine Or.inr ⟨wI R 1 0 0 1, 0, ?_, ?_, thr_0, Iv_thr h⟩
    · unfold fT3_G_told; rw [if_neg n0, r8, bd_some, e1, if_neg (by rw [i32_le] at n1; rw [i32_lt]; omega)]
    · unfold f_M_told; rw [if_neg n0, e2, if_pos n1, st_eq, pI_same, if_neg (by decide)]
  obtain ⟨s, hs, es⟩ := of_rng n0 n1 (by omega)
  have gs : ¬ (nI s < 0 ∨ 1000 ≤ s) := fun z => z.elim (nI_ps (by omega)) (fun q => by omega)
  refine Or.inl ⟨wL M 16 5 0 (uL W s), wI R 1 0 0 0, uL W s, by show 0 < mZ M 16 5; rw [z16]; decide, ?_, ?_, thr_0, pL_same, Iv_out (Iv_thr h)⟩
  · unfold f_Law_told f_G_told
    rw [if_neg n0, r8, bd_some, e1, if_pos (by rw [i32_le] at n1; rw [i32_lt]; omega), r9, bd_some, es, nI_tn (by omega), z5, gd_pos gs, b2_some, z16, gd_pos (by decide), st_eq, hmo.2.2.2.2.1.2.2 s hs]
    rfl
  · unfold f_M_told
    rw [if_neg n0, e2, if_neg n1, st_eq, pI_same, if_pos (by decide), rs_39 hps, bd_some, es, nI_tn (by omega), rz_16_4 hps, gd_pos gs, pL_I, hmr.2.2.2.2.1.2.2 s hs]
    rfl
theorem J_clock (h : Iv M R) {v : Int64} : ∃ M1 R1, f_G_clock M 0 v = some M1 ∧ f_M_clock R 0 v = some R1 ∧ Iv M1 R1 := by
  have h1 := Iv_thr (x := 0) h
  have r8 : mR M 0 0 8 = some 0 := by
    obtain ⟨nm, g, tn, jt, tb, kb, vb, en, jk, jv, jh, W, hc, _⟩ := h
    exact hc.2.2.2.2.1.1.2.2
  refine ⟨wL M 5 0 11 v, wL (wI R 1 0 0 0) 1 0 37 v, by unfold f_G_clock; rw [r8, bd_some, st_eq], by unfold f_M_clock; rw [st_eq, st_eq], ?_⟩
  generalize wI R 1 0 0 0 = R at h1
  obtain ⟨nm, g, tn, jt, tb, kb, vb, en, jk, jv, jh, W, hc, ⟨r1, r2, ⟨r3, ⟨m1, m2, m3, m4, m5, m6⟩, r3b, r3c⟩, r4, r5⟩, hb, hp⟩ := h1
  have hL : ∀ k j, ¬ (k = 5 ∧ j = 0) → mL (wL M 5 0 11 v) k j = mL M k j := fun k j z => wL_o z
  have hL2 : ∀ k j, ¬ (k = 1 ∧ j = 0) → mL (wL R 1 0 37 v) k j = mL R k j := fun k j z => wL_o z
  obtain ⟨W2, eW⟩ : ∃ W2, W2 = (uP W, uZ W, uC W, v, uN W, uL W, uH W, uK W, uV W) := ⟨_, rfl⟩
  refine ⟨nm, g, tn, jt, tb, kb, vb, en, jk, jv, jh, W2, ?_, ⟨ps_M_of rfl rfl r1, r2, ⟨r3, ⟨m1, m2, ?_, ?_, ?_, ?_⟩, ?_, ?_⟩, r4, r5⟩, ?_, ?_⟩
  · obtain ⟨w1, ⟨w2, w3, w4, w5, w6, w7⟩, w8, w9⟩ := hc.2.1
    refine cI_k hc ⟨cSh_k w1 rfl (fun _ _ _ _ => rfl) (fun _ => rfl), ⟨w2, w3, ?_, ?_, ?_, ?_⟩, ?_, ?_⟩ rfl rfl (fun _ _ _ _ => rfl) ⟨rfl, rfl⟩ (us_all hc (fun _ => rfl) (fun _ => rfl) (fun j => hL 11 j (fun z => absurd z.1 (by decide)))) rfl hc.2.2.2.2.2.1.2 (Nat.le_refl _)
    · rw [eW]; exact w4
    · rw [eW]; exact w5
    · rw [eW, hL 16 4 (fun z => absurd z.1 (by decide))]; exact w6
    · rw [eW]; exact pL_same
    · rw [eW]; exact w8
    · rw [eW]; exact w9
  · rw [eW]; exact m3
  · rw [eW]; exact m4
  · rw [eW, hL2 16 4 (fun z => absurd z.1 (by decide))]; exact m5
  · rw [eW]; exact pL_same
  · rw [eW]; exact r3b
  · rw [eW]; exact r3c
  · obtain ⟨⟨b1, b2, b3, b4⟩, b5⟩ := hb
    exact ⟨⟨by rw [eW]; exact b1, by rw [eW]; exact b2, b3, b4⟩, b5⟩
  · rcases hp with z | ⟨p, n, B, gg, z1, z2, z3, z4⟩
    · exact Or.inl z
    · exact Or.inr ⟨p, n, B, gg, z1, cPr_k z2 (fun _ _ _ => rfl) (fun _ => rfl) (fun _ => rfl) (fun _ _ => rfl) (fun _ _ => rfl) (fun j hj => hL 16 j (fun z => absurd z.1 (by decide))), rPr_k z3 (fun _ _ => rfl) (fun _ _ => rfl) (fun _ _ => rfl) (fun j hj => hL2 16 j (fun z => absurd z.1 (by decide))), z4⟩
end JRE
