/-! PURE: a program is given: the class, whole. -/
section GQ
variable {p : Nat → Int64} {n nm B tn : Nat} {kb vb : Int32 → Int32} {M : me_M} {jt : Nat}
theorem cprogram (hW : cWh M) (hs : sto M nm kb vb) (hm : mI M 0 0 3 = nI nm) (hkb : kbO nm kb vb) (hj : mR M 0 0 0 = some jt) (h1 : 1 ≤ n) (hn : n ≤ 2000) (hB1 : 1 ≤ B) (hB : B ≤ 20000) (ht : mI M 0 0 1 = nI tn) (htn : 8 * n ≤ tn) (ht2 : tn ≤ 65536) (htz : tn ≤ mZ M 14 jt) (hp : ∀ s, s < n → p s = w_ld (mI M 14 jt) s) : ∃ M1, f_G_program M 0 (nI n) (nI B) = some (M1, (g_pr p n nm kb vb B).1) ∧ cWh M1 ∧ sto M1 nm kb vb ∧ oP M M1 ∧ (∀ k, ¬ (k = 1 ∨ k = 9 ∨ k = 10 ∨ k = 11 ∨ k = 12 ∨ k = 13) → mI M1 0 0 k = mI M 0 0 k) ∧ mI M1 0 0 1 = 0 ∧ mI M1 0 0 13 = (if (g_pr p n nm kb vb B).1 = 0 then 1 else mI M 0 0 13) ∧ cPr p n (g_pr p n nm kb vb B) M1 := by
  unfold f_G_program
  rw [st_eq, st_eq, ht, if_neg (show ¬ nI n < 1 from fun z => by have := (nI_lti (b := 1) (by omega) (by decide)).mp z; omega), if_neg (show ¬ (2000 : Int32) < nI n from fun z => by have := (nI_lti (a := 2000) (by decide) (by omega)).mp z; omega), show (8 : Int32) * nI n = nI (8 * n) by rw [show (8 : Int32) = nI 8 from rfl, mul_nI], if_neg (show ¬ nI tn < nI (8 * n) from fun z => by have := (nI_lti (by omega) (by omega)).mp z; omega), if_neg (show ¬ nI B < 1 from fun z => by have := (nI_lti (b := 1) (by omega) (by decide)).mp z; omega), if_pos (show nI B ≤ 20000 from (nI_lei (b := 20000) (by omega) (by decide)).mpr hB)]
  obtain ⟨A0, hA0⟩ : ∃ A, A = wI M 0 0 1 0 := ⟨_, rfl⟩
  rw [← hA0]
  have w0 : cWh A0 := by rw [hA0]; exact cWh_0 hW
  have s0 : sto A0 nm kb vb := by rw [hA0]; exact sto_0 hs
  have o0 : oP M A0 := by rw [hA0]; exact oP_0
  have i0 : ∀ k, ¬ k = 1 → mI A0 0 0 k = mI M 0 0 k := fun k hk => by rw [hA0, pI_place hk]
  have i1 : mI A0 0 0 1 = 0 := by rw [hA0, pI_same]
  have t0 : mI A0 14 jt = mI M 14 jt := by funext q; rw [hA0, wI_j (fun z => absurd z.1 (by decide))]
  have z0 : mZ A0 14 jt = mZ M 14 jt := by rw [hA0, pZ_I]
  have j0 : mR A0 0 0 0 = some jt := by rw [hA0, pR_I]; exact hj
  rw [w0.1.1, bd_some, j0, bd_some]
  -- loaded
  obtain ⟨a1, a2, a3, a4, a5, a6, a7, a8⟩ := w0.2.1
  obtain ⟨A1, q1, q2, q3, q4⟩ := cload (M := A0) (jt := jt) hn a1 a2 a3 a4 a5 a6 (by rw [z0]; omega)
  rw [q1, bd_some]
  rw [t0] at q4
  have P1 : ∀ k j, (ldP k j ∨ (k = 2 ∧ j = 0)) → k = 2 ∨ k = 15 ∨ k = 16 := fun k j z => by omega
  have w1 : cWh A1 := cWh_fr w0 q2 (fun k j z => by omega)
  have s1 : sto A1 nm kb vb := sto_fr s0 q2 (fun k j z => by omega)
  have o1 : oP A0 A1 := oP_fr q2 (fun k j z => by
    rcases z with (z | z) | z
    · exact Or.inr (Or.inr (Or.inr (Or.inr (Or.inr (Or.inr (Or.inr (Or.inl ⟨z.1, by omega⟩)))))))
    · exact Or.inr (Or.inr (Or.inr (Or.inr (Or.inr (Or.inr (Or.inl ⟨z.1, by omega⟩))))))
    · exact Or.inr (Or.inl z.1))
  have e1 : mI A1 0 0 = mI A0 0 0 := q2.2.2.2.1 0 0 (by omega)
  rw [w1.1.2.2.1, bd_some]
  -- facts forgotten
  obtain ⟨A2, r1, r2, r3⟩ := cclear (M := A1) hn w1.2.2.1
  rw [r1, bd_some]
  have w2 : cWh A2 := cWh_fr w1 r2 (fun k j z => by omega)
  have s2 : sto A2 nm kb vb := sto_fr s1 r2 (fun k j z => by omega)
  have o2 : oP A1 A2 := oP_fr r2 (fun k j z => by
    rcases z with z | z | z
    · exact Or.inr (Or.inr (Or.inr (Or.inr (Or.inr (Or.inl ⟨z.1, by omega⟩)))))
    · exact Or.inr (Or.inr (Or.inr (Or.inr (Or.inr (Or.inr (Or.inl ⟨z.1, by omega⟩))))))
    · exact Or.inr (Or.inr (Or.inr (Or.inr (Or.inr (Or.inr (Or.inr (Or.inl ⟨z.1, by omega⟩))))))))
  have e2 : mI A2 0 0 = mI A1 0 0 := r2.2.2.2.1 0 0 (by omega)
  have c2 : mI A2 2 0 = mI A1 2 0 := r2.2.2.2.1 2 0 (by omega)
  have l2 : mL A2 16 0 = mL A1 16 0 := r2.2.2.2.2 16 0 (by omega)
  have b2' : mI A2 15 0 = mI A1 15 0 := r2.2.2.2.1 15 0 (by omega)
  have b2'' : mI A2 15 1 = mI A1 15 1 := r2.2.2.2.1 15 1 (by omega)
  rw [w2.1.2.2.2, bd_some]
  unfold f_Explorer_clear
  rw [st_eq, st_eq, st_eq, st_eq, st_eq, bd_some, st_eq]
  obtain ⟨A3, hA3⟩ : ∃ A, A = wI (wI (wI (wI (wI (wI A2 4 0 9 0) 4 0 11 0) 4 0 12 0) 4 0 13 0) 4 0 14 0) 0 0 11 1 := ⟨_, rfl⟩
  rw [← hA3]
  have f3 : fr (fun k j => k = 0 ∨ (k = 4 ∧ j = 0)) A2 A3 := by
    rw [hA3]
    exact fr_trans (fr_I (Or.inr ⟨rfl, rfl⟩)) (fr_trans (fr_I (Or.inr ⟨rfl, rfl⟩)) (fr_trans (fr_I (Or.inr ⟨rfl, rfl⟩)) (fr_trans (fr_I (Or.inr ⟨rfl, rfl⟩)) (fr_trans (fr_I (Or.inr ⟨rfl, rfl⟩)) (fr_I (Or.inl rfl))))))
  have w3 : cWh A3 := cWh_fr w2 f3 (fun k j z => by omega)
  have s3 : sto A3 nm kb vb := sto_fr s2 f3 (fun k j z => by omega)
  have o3 : oP A2 A3 := oP_fr f3 (fun k j z => by
    rcases z with z | z
    · exact Or.inl z
    · exact Or.inr (Or.inr (Or.inl z.1)))
  have n3 : mI A3 4 0 9 = 0 ∧ mI A3 4 0 11 = 0 ∧ mI A3 4 0 12 = 0 ∧ mI A3 4 0 13 = 0 ∧ mI A3 4 0 14 = 0 := by
    rw [hA3]
    refine ⟨?_, ?_, ?_, ?_, ?_⟩
    · rw [wI_j (by decide), pI_place (by decide), pI_place (by decide), pI_place (by decide), pI_place (by decide), pI_same]
    · rw [wI_j (by decide), pI_place (by decide), pI_place (by decide), pI_place (by decide), pI_same]
    · rw [wI_j (by decide), pI_place (by decide), pI_place (by decide), pI_same]
    · rw [wI_j (by decide), pI_place (by decide), pI_same]
    · rw [wI_j (by decide), pI_same]
  have i3 : ∀ k, ¬ k = 1 → ¬ k = 11 → mI A3 0 0 k = mI M 0 0 k := fun k h1 h2 => by
    rw [hA3, pI_place h2, wI_j (by decide), wI_j (by decide), wI_j (by decide), wI_j (by decide), wI_j (by decide), e2, e1, i0 k h1]
  have i3a : mI A3 0 0 1 = 0 := by rw [hA3, pI_place (by decide), wI_j (by decide), wI_j (by decide), wI_j (by decide), wI_j (by decide), wI_j (by decide), e2, e1, i1]
  have i3b : mI A3 0 0 11 = 1 := by rw [hA3, pI_same]
  have B3 : cB p n A3 := by
    obtain ⟨a1, a2, a3, a4, a5, a6, a7, a8⟩ := w3.2.1
    refine ⟨?_, a1, a2, a3, a4, a5, a6, fun s hs => ?_⟩
    · rw [f3.2.2.2.1 2 0 (by omega), c2]; exact q3
    · rw [f3.2.2.2.2 16 0 (by omega), l2, (q4 s hs).1, hp s hs]
  have fa3 : cFac n A3 (xFa x_0) := by
    intro s hs
    rw [f3.2.2.2.1 13 0 (by omega), f3.2.2.2.1 13 1 (by omega), f3.2.2.2.1 15 4 (by omega), f3.2.2.2.1 15 5 (by omega), f3.2.2.2.2 16 2 (by omega)]
    exact r3 s hs
  rw [w3.1.1, bd_some, i3 3 (by decide) (by decide), hm]
  -- the form
  obtain ⟨A4, v1, v2, v2b, v3, v4⟩ := cform (m := nI nm) hn (by omega) B3 (fun t ht => by rw [f3.2.2.2.1 15 0 (by omega), b2']; exact (q4 t ht).2.1) (fun t ht => by rw [f3.2.2.2.1 15 1 (by omega), b2'']; exact (q4 t ht).2.2)
  rw [v1, b2_some, st_eq]
  have w4 : cWh A4 := cWh_fr w3 v2 (fun k j z => by omega)
  have s4 : sto A4 nm kb vb := sto_fr s3 v2 (fun k j z => by omega)
  have o4 : oP A3 A4 := oP_fr v2 (fun k j z => by
    rcases z with z | z
    · exact Or.inr (Or.inl z.1)
    · exact Or.inr (Or.inr (Or.inr (Or.inr (Or.inr (Or.inr (Or.inl ⟨z.1, by omega⟩)))))))
  have e4 : mI A4 0 0 = mI A3 0 0 := v2.2.2.2.1 0 0 (by omega)
  have x4 : mI A4 4 0 = mI A3 4 0 := v2.2.2.2.1 4 0 (by omega)
  have fa4 : cFac n A4 (xFa x_0) := by
    intro s hs
    rw [v2.2.2.2.1 13 0 (by omega), v2.2.2.2.1 13 1 (by omega), v2.2.2.2.1 15 4 (by omega), v2.2.2.2.1 15 5 (by omega), v2.2.2.2.2 16 2 (by omega)]
    exact fa3 s hs
  have p4 : ∀ s, s < n → mL A4 16 0 s = p s := fun s hs => by rw [v2.2.2.2.2 16 0 (by omega)]; exact B3.2.2.2.2.2.2.2 s hs
  rw [show mR (wI A4 0 0 9 (f_form p n (nI nm)).1) 0 0 4 = some 0 from w4.1.1, bd_some, st_eq, show mI (wI A4 0 0 9 (f_form p n (nI nm)).1) 2 0 4 = mI A4 2 0 4 from wI_j (by decide)]
  obtain ⟨A5, hA5⟩ : ∃ A, A = wI (wI A4 0 0 9 (f_form p n (nI nm)).1) 0 0 10 (mI A4 2 0 4) := ⟨_, rfl⟩
  rw [← hA5]
  have w5 : cWh A5 := by rw [hA5]; exact cWh_0 (cWh_0 w4)
  have s5 : sto A5 nm kb vb := by rw [hA5]; exact sto_0 (sto_0 s4)
  have o5 : oP A4 A5 := by rw [hA5]; exact oP_trans oP_0 oP_0
  have oM5 : oP M A5 := oP_trans o0 (oP_trans o1 (oP_trans o2 (oP_trans o3 (oP_trans o4 o5))))
  have eo5 : ∀ k j f, ¬ k = 0 → mI A5 k j f = mI A4 k j f := fun k j f hk => by rw [hA5, wI_j (fun z => hk z.1), wI_j (fun z => hk z.1)]
  have l5 : mL A5 = mL A4 := by rw [hA5, pL_I, pL_I]
  have i5 : ∀ k, ¬ k = 1 → ¬ k = 11 → ¬ k = 9 → ¬ k = 10 → mI A5 0 0 k = mI M 0 0 k := fun k a b c d => by rw [hA5, pI_place d, pI_place c, e4, i3 k a b]
  have i5a : mI A5 0 0 1 = 0 := by rw [hA5, pI_place (by decide), pI_place (by decide), e4, i3a]
  have i5b : mI A5 0 0 11 = 1 := by rw [hA5, pI_place (by decide), pI_place (by decide), e4, i3b]
  have i59 : mI A5 0 0 9 = (f_form p n (nI nm)).1 := by rw [hA5, pI_place (by decide), pI_same]
  have i510 : mI A5 0 0 10 = mI A4 2 0 4 := by rw [hA5, pI_same]
  have fa5 : cFac n A5 (xFa x_0) := by rw [hA5]; exact cFac_0 (cFac_0 fa4)
  have n5 : mI A5 4 0 9 = 0 ∧ mI A5 4 0 11 = 0 ∧ mI A5 4 0 12 = 0 ∧ mI A5 4 0 13 = 0 ∧ mI A5 4 0 14 = 0 := by
    rw [eo5 4 0 _ (by decide), eo5 4 0 _ (by decide), eo5 4 0 _ (by decide), eo5 4 0 _ (by decide), eo5 4 0 _ (by decide), x4]
    exact n3
  have p5 : ∀ s, s < n → mL A5 16 0 s = p s := fun s hs => by rw [l5]; exact p4 s hs
  rw [i59]
  unfold g_pr
  by_cases ff : (f_form p n (nI nm)).1 = 0
  · rw [if_pos ff, if_pos ff, w5.1.2.2.2, bd_some]
    obtain ⟨cb, sec4, mk4⟩ := v4 ff
    have pf := form_pF h1 hn hs.1 ff
    have q5 : cQ A5 p n (f_mk p n) nm kb vb A5 := cQ_of w5 s5 (by rw [eo5 2 0 3 (by decide)]; exact cb.1) hn p5 (fun s hs => by rw [eo5 15 1 s (by decide)]; exact mk4 s hs)
    obtain ⟨A6, u1, u2, u3⟩ := cexplore pf hkb hB q5 w5.2.2.2.2.2.2.2.2.2.2.2 n5 fa5
    rw [u1, b2_some, st_eq]
    have pl := cFin_pl u3
    obtain ⟨w6, s6⟩ := cWh_Q w5 u2 pl
    have o6 : oP A5 A6 := oP_outs u2.2.2.2.2.2.1.2
    have e6 : mI A6 0 0 = mI A5 0 0 := (u2.2.2.2.2.2.1.2.1 0 0 (by
      rintro (z | z)
      · rcases z with z | z | z | z | z | z | z | z <;> omega
      · rcases z with z | z | z | z <;> omega)).1
    have sec6 : ∀ t, t < n → mI A6 15 0 t = b1 (f_sec p t) := fun t ht => by
      rw [(u2.2.2.2.2.2.1.2.1 15 0 (by
        rintro (z | z)
        · rcases z with z | z | z | z | z | z | z | z <;> omega
        · rcases z with z | z | z | z <;> omega)).1, eo5 15 0 t (by decide)]
      exact sec4 t ht
    obtain ⟨P, ka, wa, cp, cr, cat, cn, cf⟩ := u3
    obtain ⟨X, hX⟩ : ∃ X, X = x_all p (f_mk p n) kb vb B := ⟨_, rfl⟩
    rw [← hX] at u1 cat cn cf ⊢
    have cnm : cNm A6 X.2 := ⟨cn.2.1, cn.2.2.1, cn.2.2.2.1, cn.2.2.2.2⟩
    have fin : ∀ (f s : Int32), (f = 0 ↔ X.1 = -1) → ∃ M1, f_G_program_b148 0 (wI A6 0 0 9 f) s 0 = some (M1, f) ∧ cWh M1 ∧ sto M1 nm kb vb ∧ oP M M1 ∧ (∀ k, ¬ (k = 1 ∨ k = 9 ∨ k = 10 ∨ k = 11 ∨ k = 12 ∨ k = 13) → mI M1 0 0 k = mI M 0 0 k) ∧ mI M1 0 0 1 = 0 ∧ mI M1 0 0 13 = (if f = 0 then 1 else mI M 0 0 13) ∧ cPr p n (f, s, X.2) M1 := by
      intro f s hf
      unfold f_G_program_b148
      rw [st_eq]
      obtain ⟨A7, hA7⟩ : ∃ A, A = wI (wI A6 0 0 9 f) 0 0 10 s := ⟨_, rfl⟩
      rw [← hA7]
      have i7 : ∀ k, ¬ k = 9 → ¬ k = 10 → mI A7 0 0 k = mI A5 0 0 k := fun k a b => by rw [hA7, pI_place b, pI_place a, e6]
      have eo7 : ∀ k j q, ¬ k = 0 → mI A7 k j q = mI A6 k j q := fun k j q hk => by rw [hA7, wI_j (fun z => hk z.1), wI_j (fun z => hk z.1)]
      obtain ⟨M1, y1, y2, y3, y4, y5, y6, y7⟩ := cpr_end (X := X.2) (f := f) (fs := s) (p := p) hn (show cWh A7 by rw [hA7]; exact cWh_0 (cWh_0 w6)) (show sto A7 nm kb vb by rw [hA7]; exact sto_0 (sto_0 s6)) (by rw [hA7, pI_place (by decide), pI_same]) (by rw [hA7, pI_same]) (by rw [i7 11 (by decide) (by decide)]; exact i5b) (by rw [hA7]; exact cNm_0 (cNm_0 cnm)) (by rw [hA7]; exact cFac_0 (cFac_0 cf)) (by rw [eo7 2 0 3 (by decide)]; exact u2.2.2.2.2.2.2.1.1) (fun s hs => by rw [hA7, pL_I, pL_I]; exact u2.2.2.2.2.2.2.1.2.2.2.2.2.2.1 s hs) (fun z => ⟨pf, fun t ht => by rw [eo7 15 0 t (by decide)]; exact sec6 t ht⟩)
      refine ⟨M1, y1, y2, y3, oP_trans oM5 (oP_trans o6 (oP_trans (by rw [hA7]; exact oP_trans oP_0 oP_0) y4)), fun k hk => ?_, ?_, ?_, y7⟩
      · rw [y5 k (by omega), i7 k (by omega) (by omega), i5 k (by omega) (by omega) (by omega) (by omega)]
      · rw [y5 1 (by decide), i7 1 (by decide) (by decide), i5a]
      · rw [y6, i7 13 (by decide) (by decide), i5 13 (by decide) (by decide) (by decide) (by decide)]
    by_cases acc : X.1 = -1
    · rw [if_pos acc, if_pos acc, if_pos pI_same]
      exact fin 0 (-1) ⟨fun _ => acc, fun _ => rfl⟩
    · have ne := run_ends (p := p) (mk := f_mk p n) (kb := kb) (vb := vb) (B := B) pf (2 * B + 1) x_0 (x0_ok pf) (by unfold x_left; show 2 * (B - 0) + 0 + 1 ≤ _; omega)
      have ne0 : ¬ X.1 = 0 := by rw [hX]; exact ne
      rw [if_neg acc, if_neg acc, if_neg (by rw [pI_same]; exact ne0)]
      have pl2 : f_Explorer_place (wI A6 0 0 9 X.1) 0 = some (wI A6 0 0 9 X.1, nI (xAt X.2)) := by
        unfold f_Explorer_place
        rw [pR_I, cp.2.2.2.2.1, bd_some, wI_j (fun z => absurd z.1 (by decide)), cat]
      rw [pR_I, w6.1.2.2.2, bd_some, pl2, b2_some]
      exact fin X.1 _ ⟨fun z => absurd z ne0, fun z => absurd z acc⟩
  · rw [if_neg ff, if_neg ff]
    obtain ⟨M1, y1, y2, y3, y4, y5, y6, y7⟩ := cpr_end (X := x_0) (f := (f_form p n (nI nm)).1) (fs := nI (f_form p n (nI nm)).2) (p := p) hn w5 s5 i59 (by rw [i510]; exact v3 ff) i5b ⟨n5.2.1, n5.2.2.1, n5.2.2.2.1, n5.2.2.2.2⟩ fa5 (by rw [eo5 2 0 3 (by decide)]; exact v2b) p5 (fun z => absurd z ff)
    · refine ⟨M1, y1, y2, y3, oP_trans oM5 y4, fun k hk => ?_, ?_, ?_, y7⟩
      · rw [y5 k (by omega), i5 k (by omega) (by omega) (by omega) (by omega)]
      · rw [y5 1 (by decide), i5a]
      · rw [y6, i5 13 (by decide) (by decide) (by decide) (by decide)]
end GQ
