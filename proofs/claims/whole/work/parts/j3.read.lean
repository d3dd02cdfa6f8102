/-! PURE: calls that only tell. -/
section JRD
variable {M R : me_M} {x y : Int32}
theorem thr_0 {S : me_M} {v : Int32} : f_M_thrown (wI S 1 0 0 v) 0 = some (wI S 1 0 0 v, v) := by
  unfold f_M_thrown
  rw [pI_same]
theorem b1_if {P : Prop} {α : Type} {a b : α} : (if b1 P = 0 then a else b) = ic P b a := by
  by_cases h : P
  · rw [b1_t h, if_neg (by decide), ic_t h]
  · rw [b1_f h, if_pos rfl, ic_f h]
theorem J_about (h : Iv M R) : ∃ r R1, f_G_about M 0 x = some (M, r) ∧ f_M_about R 0 x = some (R1, r) ∧ Iv M R1 := by
  have h2 := h
  obtain ⟨nm, g, tn, jt, tb, kb, vb, en, jk, jv, jh, W, hc, hr, hb, hp⟩ := h2
  obtain ⟨⟨a1, a2, a3, a4⟩, _⟩ := hc.1
  unfold f_G_about f_M_about
  rw [st_eq, pI_place (by decide)]
  rcases hp with ⟨z1, z2, z3, z4, z5⟩ | ⟨p, n, B, gg, z1, z2, z3, z4⟩
  · rw [if_pos z1, if_pos z2]
    exact ⟨_, _, rfl, rfl, Iv_thr h⟩
  · obtain ⟨c1, c2, c3, c4, ⟨c5, c6, c7, c8⟩, c9, c10, c11, c12, c13⟩ := z2
    obtain ⟨d1, d2, d3, d4, ⟨d5, d6, d7, d8⟩, d9, d10, d11, d12⟩ := z3
    have sh : mI M 2 1 3 = mI R 1 0 26 := by
      by_cases g0 : gg.1 = 0
      · rw [(c12 g0).1, (d11 g0).2.2.2.1]
      · rw [c13 g0, d12 g0]
    rw [c3, d3, if_neg (show ¬ (1 : Int32) = 0 by decide), if_neg (show ¬ (1 : Int32) = 0 by decide), pI_place (by decide), pI_place (by decide), pI_place (by decide), pI_place (by decide), pI_place (by decide), pI_place (by decide), pI_place (by decide), pI_place (by decide), a1, a2, a4, bd_some, bd_some, bd_some, bd_some, bd_some, bd_some, c1, c2, c5, c6, c7, c8, c10, sh, d1, d2, d5, d6, d7, d8, d10]
    by_cases e0 : x = 0
    · rw [if_pos e0, if_pos e0]; exact ⟨_, _, rfl, rfl, Iv_thr h⟩
    rw [if_neg e0, if_neg e0]
    by_cases e1 : x = 1
    · rw [if_pos e1, if_pos e1]; exact ⟨_, _, rfl, rfl, Iv_thr h⟩
    rw [if_neg e1, if_neg e1]
    by_cases e2 : x = 2
    · rw [if_pos e2, if_pos e2]; exact ⟨_, _, rfl, rfl, Iv_thr h⟩
    rw [if_neg e2, if_neg e2]
    by_cases e3 : x = 3
    · rw [if_pos e3, if_pos e3]; exact ⟨_, _, rfl, rfl, Iv_thr h⟩
    rw [if_neg e3, if_neg e3]
    by_cases e4 : x = 4
    · rw [if_pos e4, if_pos e4]; exact ⟨_, _, rfl, rfl, Iv_thr h⟩
    rw [if_neg e4, if_neg e4]
    by_cases e5 : x = 5
    · rw [if_pos e5, if_pos e5]; exact ⟨_, _, rfl, rfl, Iv_thr h⟩
    rw [if_neg e5, if_neg e5]
    by_cases e6 : x = 6
    · rw [if_pos e6, if_pos e6]; exact ⟨_, _, rfl, rfl, Iv_thr h⟩
    rw [if_neg e6, if_neg e6]
    by_cases e7 : x = 7
    · rw [if_pos e7, if_pos e7]; exact ⟨_, _, rfl, rfl, Iv_thr h⟩
    rw [if_neg e7, if_neg e7]
    exact ⟨_, _, rfl, rfl, Iv_thr h⟩
/-- a number from a range -/
theorem of_rng {n : Nat} (h1 : ¬ x < 0) (h2 : ¬ nI n ≤ x) (hn : n < 2147483648) : ∃ s, s < n ∧ x = nI s := by
  have e := nI_of0 (v := x) (by
    rw [i32_lt] at h1
    have h1 : ¬ x.toInt < 0 := h1
    omega)
  refine ⟨x.toNatClampNeg, ?_, e⟩
  have l : x.toInt < 2147483648 := Int32.toInt_lt x
  have t : x.toNatClampNeg < 2147483648 := by
    show x.toInt.toNat < _
    omega
  rw [e, nI_lei hn t] at h2
  omega
theorem J_fact (h : Iv M R) : (∃ M1 R2 rb, 0 < mZ M1 16 5 ∧ f_Law_fact M 0 x y 5 = some (M1, 0) ∧ f_M_fact R 0 x y = some (R2, rb) ∧ f_M_thrown R2 0 = some (R2, 0) ∧ mL M1 16 5 0 = rb ∧ Iv M1 R2) ∨ (∃ R2 rb, fT3_G_fact M 0 x y = some M ∧ f_M_fact R 0 x y = some (R2, rb) ∧ f_M_thrown R2 0 = some (R2, 1) ∧ Iv M R2) := by
  have h2 := h
  obtain ⟨nm, g, tn, jt, tb, kb, vb, en, jk, jv, jh, W, hc, hr, hb, hp⟩ := h2
  obtain ⟨⟨a1, a2, a3, a4⟩, _, ⟨w0, w1, w2, w3, w4, w5, w6, w7, w8, w9⟩, _⟩ := hc.1
  have z16 : mZ M 16 5 = 1 := hc.2.2.2.2.1.2.2
  have hps := hr.1
  have no : f_M_fact_b33 0 x y R 0 = some (wI R 1 0 0 1, 0) := by
    unfold f_M_fact_b33 f_M_fact_b34
    rw [st_eq, pI_same, if_neg (by decide)]
  have bad : fT3_G_fact M 0 x y = some M → f_M_fact R 0 x y = f_M_fact_b33 0 x y R 0 → (∃ M1 R2 rb, 0 < mZ M1 16 5 ∧ f_Law_fact M 0 x y 5 = some (M1, 0) ∧ f_M_fact R 0 x y = some (R2, rb) ∧ f_M_thrown R2 0 = some (R2, 0) ∧ mL M1 16 5 0 = rb ∧ Iv M1 R2) ∨ (∃ R2 rb, fT3_G_fact M 0 x y = some M ∧ f_M_fact R 0 x y = some (R2, rb) ∧ f_M_thrown R2 0 = some (R2, 1) ∧ Iv M R2) := fun u v => Or.inr ⟨_, _, u, by rw [v, no], thr_0, Iv_thr h⟩
  by_cases n0 : x < 0
  · refine bad ?_ ?_
    · unfold fT3_G_fact; rw [if_pos n0]
    · unfold f_M_fact
      by_cases q : mI R 1 0 18 = 0
      · rw [if_pos q]
      · rw [if_neg q, if_pos n0]
  rcases hp with ⟨z1, z2, z3, z4, z5⟩ | ⟨p, n, B, gg, z1, z2, z3, z4⟩
  · refine bad ?_ ?_
    · unfold fT3_G_fact
      rw [if_neg n0, a1, bd_some, z5, if_pos (by rw [i32_lt] at n0; rw [i32_le]; have n0 : ¬ x.toInt < 0 := n0; show (0 : Int) ≤ x.toInt; omega)]
    · unfold f_M_fact; rw [if_pos z2]
  obtain ⟨c1, c2, c3, c4, _, c9, c10, c11, c12, c13⟩ := z2
  obtain ⟨d1, d2, d3, d4, _, d9, d10, d11, d12⟩ := z3
  have q18 : ¬ mI R 1 0 18 = 0 := by rw [d3]; decide
  by_cases n1 : nI n ≤ x
  · refine bad ?_ ?_
    · unfold fT3_G_fact; rw [if_neg n0, a1, bd_some, c10, if_pos n1]
    · unfold f_M_fact; rw [if_neg q18, if_neg n0, d10, if_pos n1]
  by_cases n2 : y < 0
  · refine bad ?_ ?_
    · unfold fT3_G_fact; rw [if_neg n0, a1, bd_some, c10, if_neg n1, if_pos n2]
    · unfold f_M_fact; rw [if_neg q18, if_neg n0, d10, if_neg n1, if_pos n2]
  by_cases n3 : ¬ y ≤ 4
  · refine bad ?_ ?_
    · unfold fT3_G_fact; rw [if_neg n0, a1, bd_some, c10, if_neg n1, if_neg n2, if_neg n3]
    · unfold f_M_fact
      rw [if_neg q18, if_neg n0, d10, if_neg n1, if_neg n2, if_pos (by
        rw [i32_le] at n3 ⊢
        have n3 : ¬ y.toInt ≤ 4 := n3
        show (5 : Int) ≤ y.toInt
        omega)]
  have n3 : y ≤ 4 := Classical.not_not.mp n3
  obtain ⟨s, hs, es⟩ := of_rng n0 n1 (by omega)
  have n2k := z1.2.1
  obtain ⟨f0, f1, f2, f3, f4, f5⟩ := c9 s hs
  obtain ⟨k0, k1, k2, k3, k4⟩ := d9 s hs
  have gs : ¬ (nI s < 0 ∨ 2000 ≤ s) := fun z => z.elim (nI_ps (by omega)) (fun q => by omega)
  left
  -- the answer
  obtain ⟨v, v1, v2⟩ : ∃ v, f_G_fact M 0 x y = some (M, v) ∧ f_M_fact R 0 x y = some (wI R 1 0 0 0, v) := by
    unfold f_G_fact f_M_fact f_Facts_answer f_M_fact_b34
    have e4 : mI (wI R 1 0 0 0) 13 5 s = (xFa gg.2.2).2.2.2.1 s := by rw [wI_j (fun z => absurd z.1 (by decide))]; exact k3
    rw [if_neg n0, a1, bd_some, c10, if_neg n1, if_neg n2, if_pos n3, a3, bd_some, if_neg q18, if_neg n0, d10, if_neg n1, if_neg n2, if_neg (by
        rw [i32_le] at n3 ⊢
        have n3 : y.toInt ≤ 4 := n3
        show ¬ (5 : Int) ≤ y.toInt
        omega), st_eq, pI_same, if_pos (by decide), w3, bd_some, es, nI_tn (by omega), w6, gd_pos gs, f3, rs_30 hps, bd_some, rz_13_5 hps, gd_pos gs, e4]
    have both : ∀ e : Int32, (e = 0 ∨ (e = 1 ∧ (xFa gg.2.2).2.2.2.1 s = 1)) → ∃ v, b2 (f_Facts_answer_b15 0 (nI s) y M e) (fun M9 r10 => some (M9, r10)) = some (M, v) ∧ f_M_fact_b61 0 (nI s) y (wI R 1 0 0 0) e = some (wI R 1 0 0 0, v) := by
      intro e he
      unfold f_Facts_answer_b15 f_M_fact_b61
      have w13 : mI (wI R 1 0 0 0) 13 4 s = (xFa gg.2.2).1 s := by rw [wI_j (fun z => absurd z.1 (by decide))]; exact k0
      have w151 : mI (wI R 1 0 0 0) 15 1 s = b1 ((xFa gg.2.2).2.1 s) := by rw [wI_j (fun z => absurd z.1 (by decide))]; exact k1
      have w152 : mI (wI R 1 0 0 0) 15 2 s = b1 ((xFa gg.2.2).2.2.1 s) := by rw [wI_j (fun z => absurd z.1 (by decide))]; exact k2
      rw [pR_I, nI_tn (by omega), w0, bd_some, w5, gd_pos gs, f0, w1, bd_some, w7, gd_pos gs, f1, w2, bd_some, w8, gd_pos gs, f2, w4, bd_some, w9, gd_pos gs, rs_27 hps, bd_some, rs_28 hps, bd_some, rs_29 hps, bd_some, rs_31 hps, bd_some, pZ_I, rz_13_4 hps, rz_15_1 hps, rz_15_2 hps, rz_16_3 hps, gd_pos gs, gd_pos gs, gd_pos gs, gd_pos gs, w13, w151, w152, pL_I]
      by_cases y0 : y = 0
      · rw [if_pos y0, if_pos y0, b2_some]; exact ⟨_, rfl, rfl⟩
      rw [if_neg y0, if_neg y0]
      by_cases y1 : y = 1
      · rw [if_pos y1, if_pos y1]
        by_cases q : b1 ((xFa gg.2.2).2.1 s) = 0
        · rw [if_pos q, if_pos q, b2_some]; exact ⟨_, rfl, rfl⟩
        · rw [if_neg q, if_neg q, b2_some]; exact ⟨_, rfl, rfl⟩
      rw [if_neg y1, if_neg y1]
      by_cases y2 : y = 2
      · rw [if_pos y2, if_pos y2]
        by_cases q : b1 ((xFa gg.2.2).2.2.1 s) = 0
        · rw [if_pos q, if_pos q, b2_some]; exact ⟨_, rfl, rfl⟩
        · rw [if_neg q, if_neg q, b2_some]; exact ⟨_, rfl, rfl⟩
      rw [if_neg y2, if_neg y2]
      by_cases y3 : y = 3
      · rw [if_pos y3, if_pos y3]
        by_cases q : e = 0
        · rw [if_pos q, if_pos q, b2_some]; exact ⟨_, rfl, rfl⟩
        · rw [if_neg q, if_neg q, b2_some]; exact ⟨_, rfl, rfl⟩
      rw [if_neg y3, if_neg y3]
      by_cases q : e = 0
      · rw [if_pos q, if_pos q, b2_some]; exact ⟨_, rfl, rfl⟩
      · have x1 := (he.resolve_left q).2
        rw [if_neg q, if_neg q, b2_some, f4 x1, k4 x1]
        exact ⟨_, rfl, rfl⟩
    by_cases q : (xFa gg.2.2).2.2.2.1 s = 1
    · rw [if_pos q, if_pos q]
      exact both 1 (Or.inr ⟨rfl, q⟩)
    · rw [if_neg q, if_neg q]
      exact both 0 (Or.inl rfl)
  refine ⟨wL M 16 5 0 v, wI R 1 0 0 0, v, by show 0 < mZ M 16 5; rw [z16]; decide, ?_, v2, thr_0, pL_same, Iv_out (Iv_thr h)⟩
  unfold f_Law_fact
  rw [v1, b2_some, z16, gd_pos (by decide), st_eq]
end JRD
