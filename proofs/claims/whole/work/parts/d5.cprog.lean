/-! PURE: a program is given: the class. -/
/-- the fault, its slot, and what exploring found -/
noncomputable def g_pr (p : Nat → Int64) (n nm : Nat) (kb vb : Int32 → Int32) (B : Nat) : Int32 × Int32 × xT :=
  if (f_form p n (nI nm)).1 = 0 then (if (x_all p (f_mk p n) kb vb B).1 = -1 then (0, -1, (x_all p (f_mk p n) kb vb B).2) else ((x_all p (f_mk p n) kb vb B).1, nI (xAt (x_all p (f_mk p n) kb vb B).2), (x_all p (f_mk p n) kb vb B).2)) else ((f_form p n (nI nm)).1, nI (f_form p n (nI nm)).2, x_0)
/-- the class's own shape -/
def cWs (M : me_M) : Prop := mR M 0 0 4 = some 0 ∧ mR M 0 0 5 = some 1 ∧ mR M 0 0 6 = some 0 ∧ mR M 0 0 7 = some 0
def cWc (M : me_M) : Prop := mR M 2 0 0 = some 0 ∧ mZ M 16 0 = 2000 ∧ mR M 2 0 1 = some 0 ∧ mZ M 15 0 = 2000 ∧ mR M 2 0 2 = some 1 ∧ mZ M 15 1 = 2000 ∧ mR M 2 1 0 = some 1 ∧ mZ M 16 1 = 2000
def cWf (M : me_M) : Prop := mR M 3 0 0 = some 0 ∧ mR M 3 0 1 = some 4 ∧ mR M 3 0 2 = some 5 ∧ mR M 3 0 3 = some 1 ∧ mR M 3 0 4 = some 2 ∧ mZ M 13 0 = 2000 ∧ mZ M 13 1 = 2000 ∧ mZ M 15 4 = 2000 ∧ mZ M 15 5 = 2000 ∧ mZ M 16 2 = 2000
def cWg (M : me_M) : Prop := mR M 3 0 5 = some 6 ∧ mZ M 15 6 = 2000 ∧ mR M 3 0 6 = some 2 ∧ mZ M 13 2 = 2001
def cWx (M : me_M) : Prop := xsh M ∧ ss M ∧ cnt M ∧ ps_R M ∧ (mR M 7 0 0 = some 0 ∧ mR M 7 0 1 = some 0 ∧ mR M 7 0 2 = some 0 ∧ mR M 7 0 3 = some 0 ∧ mR M 7 0 4 = some 6 ∧ mR M 7 0 15 = some 7 ∧ mR M 7 0 16 = some 8 ∧ mR M 7 0 17 = some 9 ∧ mR M 7 0 18 = some 10) ∧ (mI M 13 3 0 = 0 ∧ mI M 13 4 0 = 0) ∧ (∀ s, s < mN M 9 → ∃ u, us M s u) ∧ cPols M
def cWh (M : me_M) : Prop := cWs M ∧ cWc M ∧ cWf M ∧ cWg M ∧ cWx M
/-- what a program may change -/
def pZ (k j : Nat) : Prop := k = 0 ∨ k = 2 ∨ k = 4 ∨ k = 7 ∨ kS k ∨ (k = 13 ∧ j ≤ 4) ∨ (k = 15 ∧ j ≤ 6) ∨ (k = 16 ∧ j ≤ 2) ∨ k = 17
def oP (M M1 : me_M) : Prop := (∀ k j, ¬ pZ k j → mI M1 k j = mI M k j ∧ mL M1 k j = mL M k j) ∧ (∀ k j f, ¬ kS k → ¬ rP k f → mR M1 k j f = mR M k j f) ∧ (∀ k j, ¬ kS k → mZ M1 k j = mZ M k j) ∧ ∀ k, ¬ kS k → mN M1 k = mN M k
section GP
variable {p : Nat → Int64} {n nm B : Nat} {mk : Nat → Prop} {kb vb : Int32 → Int32} {M M1 M2 Mz N : me_M} {jt : Nat}
theorem oP_refl : oP M M := ⟨fun _ _ _ => ⟨rfl, rfl⟩, fun _ _ _ _ _ => rfl, fun _ _ _ => rfl, fun _ _ => rfl⟩
theorem oP_trans (h : oP M M1) (g : oP M1 M2) : oP M M2 := ⟨fun k j hk => ⟨((g.1 k j hk).1).trans (h.1 k j hk).1, ((g.1 k j hk).2).trans (h.1 k j hk).2⟩, fun k j f a b => (g.2.1 k j f a b).trans (h.2.1 k j f a b), fun k j a => (g.2.2.1 k j a).trans (h.2.2.1 k j a), fun k a => (g.2.2.2 k a).trans (h.2.2.2 k a)⟩
theorem oP_fr {P : Nat → Nat → Prop} (h : fr P M M1) (g : ∀ k j, P k j → pZ k j) : oP M M1 := ⟨fun k j hk => ⟨h.2.2.2.1 k j (fun z => hk (g k j z)), h.2.2.2.2 k j (fun z => hk (g k j z))⟩, fun k j f _ _ => by rw [h.1], fun k j _ => by rw [h.2.2.1], fun k _ => by rw [h.2.1]⟩
theorem oP_outs (h : outs M M1) : oP M M1 := ⟨fun k j hk => h.1 k j (fun z => hk (by
  rcases z with z | z
  · rcases z with z | z | z | z | z | z | z | z
    · exact Or.inr (Or.inr (Or.inl z))
    · exact Or.inr (Or.inl z.1)
    · exact Or.inr (Or.inr (Or.inr (Or.inl z)))
    · exact Or.inr (Or.inr (Or.inr (Or.inr (Or.inl (Or.inr (Or.inl z.1))))))
    · exact Or.inr (Or.inr (Or.inr (Or.inr (Or.inl (Or.inr (Or.inr (Or.inl z.1)))))))
    · exact Or.inr (Or.inr (Or.inr (Or.inr (Or.inr (Or.inl ⟨z.1, by omega⟩)))))
    · exact Or.inr (Or.inr (Or.inr (Or.inr (Or.inr (Or.inr (Or.inl ⟨z.1, by omega⟩))))))
    · exact Or.inr (Or.inr (Or.inr (Or.inr (Or.inr (Or.inr (Or.inr (Or.inl ⟨z.1, by omega⟩)))))))
  · exact Or.inr (Or.inr (Or.inr (Or.inr (Or.inl z)))))), h.2.1, h.2.2.1, h.2.2.2⟩
theorem outs_refl : outs M M := ⟨fun _ _ _ => ⟨rfl, rfl⟩, fun _ _ _ _ _ => rfl, fun _ _ _ => rfl, fun _ _ => rfl⟩
theorem cQ_of (hW : cWh M) (hs : sto M nm kb vb) (h3 : mI M 2 0 3 = nI n) (hn : n ≤ 2000) (hp : ∀ s, s < n → mL M 16 0 s = p s) (hm : ∀ s, s < n → mI M 15 1 s = b1 (mk s)) : cQ M p n mk nm kb vb M := by
  obtain ⟨w1, ⟨a1, a2, a3, a4, a5, a6, a7, a8⟩, w3, w4, x1, x2, x3, x4, x5, x6, x7, x8⟩ := hW
  exact ⟨x1, x2, x3, x4, x5, ⟨hs, outs_refl⟩, ⟨h3, hn, a1, a2, a5, a6, hp, hm⟩, w3, x6, x7⟩
/-- the class's shape under small changes -/
theorem cWh_fr {P : Nat → Nat → Prop} (h : cWh M) (g : fr P M N) (hP : ∀ k j, P k j → k = 0 ∨ k = 2 ∨ k = 4 ∨ (k = 13 ∧ j ≤ 2) ∨ k = 15 ∨ k = 16) : cWh N := by
  obtain ⟨w1, w2, w3, w4, x1, x2, x3, x4, x5, x6, x7, x8⟩ := h
  have no : ∀ k j, (k = 9 ∨ k = 10 ∨ k = 11) → ¬ P k j := fun k j hk z => by have := hP k j z; omega
  have sm : ∀ s, sme M N s := fun s => ⟨fun i hi => cv_fr g (no _ _ (by omega)) (no _ _ (by omega)), g.2.2.2.1 9 s (no _ _ (by omega))⟩
  refine ⟨?_, ?_, ?_, ?_, ?_, ss_of g.1 g.2.1 g.2.2.1 x2, ?_, ps_R_of g.1 x4, ?_, ?_, ?_, ?_⟩
  · unfold cWs at w1 ⊢; rw [g.1]; exact w1
  · unfold cWc at w2 ⊢; rw [g.1, g.2.2.1]; exact w2
  · unfold cWf at w3 ⊢; rw [g.1, g.2.2.1]; exact w3
  · unfold cWg at w4 ⊢; rw [g.1, g.2.2.1]; exact w4
  · unfold xsh at x1 ⊢; rw [g.1, g.2.2.1]; exact x1
  · unfold cnt at x3 ⊢; rw [g.2.1]; exact x3
  · rw [g.1]; exact x5
  · rw [g.2.2.2.1 13 3 (fun z => by have := hP _ _ z; omega), g.2.2.2.1 13 4 (fun z => by have := hP _ _ z; omega)]; exact x6
  · intro s hs
    rw [g.2.1] at hs
    obtain ⟨u, hu⟩ := x7 s hs
    exact ⟨u, sme_us (sm s) hu⟩
  · obtain ⟨P2, ka, wa, ⟨p1, p2, p3, p4, p5, p6, p7, p8, p9⟩, q⟩ := x8
    refine ⟨P2, ka, wa, ⟨p1, p2, p3, p4, ?_, ?_, ?_, ?_, p9⟩, cRoom_N q g.2.1⟩
    · rw [g.1]; exact p5
    · rw [g.1]; exact p6
    · rw [g.1]; exact p7
    · rw [g.2.1]; exact p8
theorem sto_fr {P : Nat → Nat → Prop} (h : sto M nm kb vb) (g : fr P M N) (hP : ∀ k j, P k j → ¬ k = 12) : sto N nm kb vb := ⟨h.1, by rw [g.2.2.1]; exact h.2.1, fun m hm => by rw [g.1, g.2.2.2.1 12 m (fun z => hP _ _ z rfl)]; exact h.2.2 m hm⟩
/-- the shape behind exploring -/
theorem cWh_Q (h : cWh Mz) (q : cQ Mz p n mk nm kb vb M) (hp : cPols M) : cWh M ∧ sto M nm kb vb := by
  obtain ⟨w1, w2, w3, w4, _⟩ := h
  obtain ⟨q1, q2, q3, q4, q5, ⟨q6, o1, o2, o3, o4⟩, q7, q8, q9, q10⟩ := q
  have oR : ∀ k j f, (k = 0 ∨ k = 2 ∨ k = 3) → mR M k j f = mR Mz k j f := fun k j f hk => o2 k j f (by rintro (z | z | z | z) <;> omega) (by rintro (z | z | z) <;> omega)
  have oZ : ∀ k j, (k = 13 ∨ k = 15 ∨ k = 16) → mZ M k j = mZ Mz k j := fun k j hk => o3 k j (by rintro (z | z | z | z) <;> omega)
  refine ⟨⟨?_, ?_, q8, ?_, q1, q2, q3, q4, q5, q9, q10, hp⟩, q6⟩
  · unfold cWs at w1 ⊢
    rw [oR 0 0 4 (by omega), oR 0 0 5 (by omega), oR 0 0 6 (by omega), oR 0 0 7 (by omega)]
    exact w1
  · unfold cWc at w2 ⊢
    rw [oR 2 0 0 (by omega), oR 2 0 1 (by omega), oR 2 0 2 (by omega), oR 2 1 0 (by omega), oZ 16 0 (by omega), oZ 15 0 (by omega), oZ 15 1 (by omega), oZ 16 1 (by omega)]
    exact w2
  · unfold cWg at w4 ⊢
    rw [oR 3 0 5 (by omega), oR 3 0 6 (by omega), oZ 15 6 (by omega), oZ 13 2 (by omega)]
    exact w4
def cNm (M : me_M) (X : xT) : Prop := mI M 4 0 11 = nI (xKn X) ∧ mI M 4 0 12 = nI (xVi X) ∧ mI M 4 0 13 = nI (xMw X) ∧ mI M 4 0 14 = nI (xPa X)
/-- what the class holds of a program that was given -/
def cPr (p : Nat → Int64) (n : Nat) (g : Int32 × Int32 × xT) (M1 : me_M) : Prop := mI M1 0 0 9 = g.1 ∧ mI M1 0 0 10 = g.2.1 ∧ mI M1 0 0 11 = 1 ∧ mI M1 0 0 12 = b1 (g.1 = 0) ∧ cNm M1 g.2.2 ∧ cFac n M1 (xFa g.2.2) ∧ mI M1 2 0 3 = nI n ∧ (∀ s, s < n → mL M1 16 0 s = p s) ∧ (g.1 = 0 → mI M1 2 1 3 = nI (z_np p (xFa g.2.2) n n) ∧ ∀ t, t < n → z_S p (xFa g.2.2) n t → mL M1 16 1 (z_np p (xFa g.2.2) n t) = z_wd p (xFa g.2.2) n t) ∧ (¬ g.1 = 0 → mI M1 2 1 3 = 0)
theorem z_k0 {k j : Nat} (h : k = 0) : pZ k j := Or.inl h
theorem cWh_0 (h : cWh M) {f : Nat} {v : Int32} : cWh (wI M 0 0 f v) := cWh_fr (P := fun k j => k = 0) h (fr_I rfl) (fun k j z => Or.inl z)
theorem sto_0 (h : sto M nm kb vb) {f : Nat} {v : Int32} : sto (wI M 0 0 f v) nm kb vb := sto_fr (P := fun k j => k = 0) h (fr_I rfl) (fun k j z => by rw [z]; decide)
theorem oP_0 {f : Nat} {v : Int32} : oP M (wI M 0 0 f v) := oP_fr (P := fun k j => k = 0) (fr_I rfl) (fun k j z => z_k0 z)
theorem cNm_0 {X : xT} {f : Nat} {v : Int32} (h : cNm M X) : cNm (wI M 0 0 f v) X := by
  unfold cNm at h ⊢
  rw [wI_j (by decide), wI_j (by decide), wI_j (by decide), wI_j (by decide)]
  exact h
theorem cFac_0 {F : xF} {f : Nat} {v : Int32} (h : cFac n M F) : cFac n (wI M 0 0 f v) F := by
  intro q hq
  rw [wI_j (by decide), wI_j (by decide), wI_j (by decide), wI_j (by decide), pL_I]
  exact h q hq
/-- the end: accepted or not -/
theorem cpr_end {X : xT} {f fs : Int32} (hn : n ≤ 2000) (hW : cWh M) (hs : sto M nm kb vb) (h9 : mI M 0 0 9 = f) (h10 : mI M 0 0 10 = fs) (h11 : mI M 0 0 11 = 1) (hN : cNm M X) (hF : cFac n M (xFa X)) (h3 : mI M 2 0 3 = nI n) (hp : ∀ s, s < n → mL M 16 0 s = p s) (hg : f = 0 → pF p n (f_sec p) nm ∧ ∀ t, t < n → mI M 15 0 t = b1 (f_sec p t)) : ∃ M1, f_G_program_b151 0 M = some (M1, f) ∧ cWh M1 ∧ sto M1 nm kb vb ∧ oP M M1 ∧ (∀ k, ¬ (k = 12 ∨ k = 13) → mI M1 0 0 k = mI M 0 0 k) ∧ mI M1 0 0 13 = (if f = 0 then 1 else mI M 0 0 13) ∧ cPr p n (f, fs, X) M1 := by
  unfold f_G_program_b151 f_G_program_b164
  rw [h9]
  by_cases z : f = 0
  · rw [if_pos z, st_eq, if_neg (by rw [pI_same]; decide), st_eq]
    obtain ⟨A, hA⟩ : ∃ A, A = wI (wI M 0 0 12 1) 0 0 13 1 := ⟨_, rfl⟩
    rw [← hA]
    have wA : cWh A := by rw [hA]; exact cWh_0 (cWh_0 hW)
    have sA : sto A nm kb vb := by rw [hA]; exact sto_0 (sto_0 hs)
    have oA : oP M A := by rw [hA]; exact oP_trans oP_0 oP_0
    have eA : ∀ k j f, ¬ k = 0 → mI A k j f = mI M k j f := fun k j f hk => by rw [hA, wI_j (fun z => hk z.1), wI_j (fun z => hk z.1)]
    have lA : mL A = mL M := by rw [hA, pL_I, pL_I]
    have iA : ∀ k, ¬ (k = 12 ∨ k = 13) → mI A 0 0 k = mI M 0 0 k := fun k hk => by rw [hA, pI_place (by omega), pI_place (by omega)]
    obtain ⟨pf, sec⟩ := hg z
    have zb : zBs p n (xFa X) A := by
      obtain ⟨w1, ⟨a1, a2, a3, a4, a5, a6, a7, a8⟩, w3, ⟨g1, g2, g3, g4⟩, _⟩ := wA
      refine ⟨⟨by rw [eA 2 0 3 (by decide)]; exact h3, a1, a2, a3, a4, a5, a6, fun s hs2 => by rw [lA]; exact hp s hs2⟩, fun t ht => by rw [eA 15 0 t (by decide)]; exact sec t ht, w3, ?_, a7, a8, g1, g2, g3, g4⟩
      rw [hA]
      exact cFac_0 (cFac_0 hF)
    obtain ⟨N1, q1, q2, q3, q4, q5⟩ := cshort hn pf zb
    rw [wA.1.2.2.1, bd_some, wA.1.1, bd_some, wA.1.2.1, bd_some, q1, bd_some]
    have e0 : mI N1 0 0 = mI A 0 0 := q2.2.2.2.1 0 0 (by rintro (z | z | z | z) <;> omega)
    have e4 : mI N1 4 0 = mI A 4 0 := q2.2.2.2.1 4 0 (by rintro (z | z | z | z) <;> omega)
    have r9 : mI N1 0 0 9 = f := by rw [e0, iA 9 (by decide)]; exact h9
    rw [r9]
    refine ⟨N1, rfl, cWh_fr wA q2 (by rintro k j (z | z | z | z) <;> omega), sto_fr sA q2 (by rintro k j (z | z | z | z) <;> omega), oP_trans oA (oP_fr q2 (by
      rintro k j (z | z | z | z)
      · exact Or.inr (Or.inl z.1)
      · exact Or.inr (Or.inr (Or.inr (Or.inr (Or.inr (Or.inr (Or.inl ⟨z.1, by omega⟩))))))
      · exact Or.inr (Or.inr (Or.inr (Or.inr (Or.inr (Or.inl ⟨z.1, by omega⟩)))))
      · exact Or.inr (Or.inr (Or.inr (Or.inr (Or.inr (Or.inr (Or.inr (Or.inl ⟨z.1, by omega⟩)))))))
      )), fun k hk => by rw [e0]; exact iA k hk, ?_, r9, ?_, ?_, ?_, ?_, q3.2.2.2.1, q3.1.1, q3.1.2.2.2.2.2.2.2, fun _ => ⟨q4, q5⟩, fun w => absurd z w⟩
    · rw [e0, if_pos z, hA, pI_same]
    · rw [e0, iA 10 (by decide)]; exact h10
    · rw [e0, iA 11 (by decide)]; exact h11
    · rw [e0, hA, pI_place (by decide), pI_same, b1_t z]
    · unfold cNm at hN ⊢
      rw [e4, eA 4 0 _ (by decide), eA 4 0 _ (by decide), eA 4 0 _ (by decide), eA 4 0 _ (by decide)]
      exact hN
  · rw [if_neg z, st_eq, if_pos pI_same, pR_I, hW.1.2.1, bd_some, st_eq]
    have w0 : cWh (wI M 0 0 12 0) := cWh_0 hW
    have g2 : fr (fun k j => k = 2 ∧ j = 1) (wI M 0 0 12 0) (wI (wI M 0 0 12 0) 2 1 3 0) := fr_I ⟨rfl, rfl⟩
    have e0 : ∀ k, ¬ k = 12 → mI (wI (wI M 0 0 12 0) 2 1 3 0) 0 0 k = mI M 0 0 k := fun k hk => by rw [wI_j (by decide), pI_place hk]
    have eo : ∀ k j f, ¬ k = 0 → ¬ (k = 2 ∧ j = 1) → mI (wI (wI M 0 0 12 0) 2 1 3 0) k j f = mI M k j f := fun k j f a b => by rw [wI_j b, wI_j (fun z => a z.1)]
    rw [e0 9 (by decide), h9]
    refine ⟨_, rfl, cWh_fr w0 g2 (fun k j z => Or.inr (Or.inl z.1)), sto_fr (sto_0 hs) g2 (fun k j z => by omega), oP_trans oP_0 (oP_fr g2 (fun k j z => Or.inr (Or.inl z.1))), fun k hk => e0 k (by omega), ?_, ?_, ?_, ?_, ?_, ?_, ?_, ?_, hp, fun w => absurd w z, fun _ => pI_same⟩
    · rw [if_neg z, e0 13 (by decide)]
    · rw [e0 9 (by decide)]; exact h9
    · rw [e0 10 (by decide)]; exact h10
    · rw [e0 11 (by decide)]; exact h11
    · rw [wI_j (by decide), pI_same, b1_f z]
    · unfold cNm at hN ⊢
      rw [eo 4 0 _ (by decide) (by decide), eo 4 0 _ (by decide) (by decide), eo 4 0 _ (by decide) (by decide), eo 4 0 _ (by decide) (by decide)]
      exact hN
    · intro q hq
      rw [eo 13 0 _ (by decide) (by decide), eo 13 1 _ (by decide) (by decide), eo 15 4 _ (by decide) (by decide), eo 15 5 _ (by decide) (by decide), pL_I, pL_I]
      exact hF q hq
    · rw [eo 2 0 3 (by decide) (by decide)]; exact h3
end GP
