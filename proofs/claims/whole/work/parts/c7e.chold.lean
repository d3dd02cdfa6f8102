/-! PURE: the class holds a state back. -/
/-- the Steps still have in them what they found of a jump -/
def tr (M0 N : me_M) (c : Int64) : Prop := mI N 7 0 = mI M0 7 0 ∧ st4 N ∧ (∀ j, 7 ≤ j → j < 11 → pg N j = pg M0 j) ∧ lk N 0 c
section CH
variable {Mz : me_M} {p : Nat → Int64} {n nm B : Nat} {sec mk : Nat → Prop} {kb vb : Int32 → Int32} {X : xT} {c : Int64} {M M0 M1 M2 N : me_M} {s t ka wa : Nat} {P : Nat → Nat}
theorem tr_fr {Q : Nat → Nat → Prop} (h : tr M0 M c) (g : fr Q M M1) (h7 : ¬ Q 7 0) (h2 : ¬ Q 2 0) (h11 : ∀ j, j < 11 → ¬ Q 11 j) : tr M0 M1 c := by
  obtain ⟨a1, a2, a3, a4⟩ := h
  refine ⟨(g.2.2.2.1 7 0 h7).trans a1, ?_, fun j j1 j2 => ?_, ?_⟩
  · unfold st4 at a2 ⊢; rw [g.1]; exact a2
  · have e : pg M1 j = pg M j := by unfold pg; rw [g.2.2.2.2 11 j (h11 j j2)]
    rw [e]; exact a3 j j1 j2
  · unfold lk at a4 ⊢; rw [g.2.2.2.1 2 0 h2]; exact a4
theorem tr_R {k j f : Nat} {v : Option Nat} (h : tr M0 M c) (hk : ¬ k = 7) : tr M0 (wR M k j f v) c := by
  obtain ⟨a1, ⟨b1', b2', b3', b4', b5'⟩, a3, a4⟩ := h
  have o : ∀ x, mR (wR M k j f v) 7 0 x = mR M 7 0 x := fun x => by rw [pR_R, if_neg (fun z => hk z.1.symm)]
  exact ⟨a1, ⟨(o _).trans b1', (o _).trans b2', (o _).trans b3', (o _).trans b4', (o _).trans b5'⟩, a3, a4⟩
theorem tr_n (h : tr M0 M c) (g : nfr M M1) (hc : cnt M) : tr M0 M1 c := by
  obtain ⟨a1, a2, a3, a4⟩ := h
  refine ⟨?_, ?_, fun j j1 j2 => ?_, ?_⟩
  · rw [(g.1 7 0 (Or.inr (by decide))).1]; exact a1
  · unfold st4 at a2 ⊢; rw [(g.1 7 0 (Or.inr (by decide))).2.2.1]; exact a2
  · have e : pg M1 j = pg M j := by unfold pg; rw [(g.1 11 j (Or.inl (by rw [hc.2.2]; omega))).2.1]
    rw [e]; exact a3 j j1 j2
  · unfold lk at a4 ⊢; rw [(g.1 2 0 (Or.inr (by decide))).1]; exact a4
theorem sP_11 {j : Nat} (h : j < 11) : ¬ sP s 11 j := by
  rintro (z | z)
  · exact absurd z.1 (by decide)
  · obtain ⟨i, hi, q | q⟩ := z
    · exact absurd q.1 (by decide)
    · have := q.2
      rw [nu_g (by omega)] at this
      omega
theorem jimax_n {a b : Nat} (ha : a < 2147483648) (hb : b < 2147483648) : jimax (nI a) (nI b) = nI (if b ≤ a then a else b) := by
  unfold jimax
  by_cases h : b ≤ a
  · rw [if_pos h]
    split
    · rename_i g
      first
        | (have := (nI_lti ha hb).mp g; omega)
        | (have := (nI_lti hb ha).mp g; omega)
        | (have := (nI_lei hb ha).mp g; rfl)
        | (have := (nI_lei ha hb).mp g; rw [show a = b by omega])
    · rfl
  · rw [if_neg h]
    split
    · rfl
    · rename_i g
      first
        | exact absurd ((nI_lti ha hb).mpr (by omega)) g
        | exact absurd ((nI_lei ha hb).mpr (by omega)) g
theorem chold (hQ : cQ Mz p n mk nm kb vb M) (h : cE n M P ka wa X) (hW : xWn X < 200) (hMw : xMw X ≤ 200) (hwa : wa = xWn X ∨ (xWn X < wa ∧ s = P (201 + xWn X))) (hs : s < mN M 9) (hs1 : ¬ s = 1) (hd : ∀ j, vd ka wa j → ¬ j = 201 + xWn X → ¬ P j = s) {σ τ a : sT} {l : Option sT} (ht : tld M0 c σ (some τ) l) (hr : tr M0 M c) (hσ : ∀ i, i < 75 → sv M (P 0) i = σ i) (ha : e75 τ a) {x : Int32} {t : Nat} (hx : x = nI t) : ∃ M1, f_Explorer_holdBack_b43 0 x M s = some (M1, 1) ∧ cQ Mz p n mk nm kb vb M1 ∧ mN M1 = mN M ∧ cE n M1 (fup P (201 + xWn X) s) ka (if xWn X < wa then wa else xWn X + 1) (x_push X a t) ∧ tr M0 M1 c ∧ (∀ i, i < 75 → sv M1 (P 0) i = σ i) ∧ mI M1 4 0 10 = mI M 4 0 10 := by
  obtain ⟨x0, x1, x2, x3, x4, x5, x6, z1, z2, z3, z4⟩ := hQ.1
  obtain ⟨⟨p1, p2, p3, p4, p5, p6, p7, p8, p9⟩, ⟨r1, r2, r3⟩, h3, ⟨m1, m2, m3, m4, m5⟩, h5⟩ := h
  obtain ⟨W, hWd⟩ : ∃ W, W = xWn X := ⟨_, rfl⟩
  rw [← hWd] at hW hwa hd p4 r3 m1 ⊢
  have t0 := (p8 0 vd_0).1
  have st0 : ¬ P 0 = s := hd 0 vd_0 (by omega)
  obtain ⟨w, hw⟩ := hQ.2.2.2.2.2.2.2.2.2 s hs
  obtain ⟨u, hu⟩ := hQ.2.2.2.2.2.2.2.2.2 (P 0) t0
  obtain ⟨M3, c1, c2, c3, c4, c5, c6, c7⟩ := st_copy hQ.2.1 hs t0 st0 hw hu
  unfold f_Explorer_holdBack_b43
  rw [p5, bd_some, c1, bd_some, st_eq]
  have no4 : ¬ sP s 4 0 := sP_no (by decide)
  obtain ⟨M4, hM4⟩ : ∃ M4, M4 = wI M3 9 s 2 x := ⟨_, rfl⟩
  rw [← hM4]
  have g4 : fr (sP s) M M4 := fr_trans c7 (by rw [hM4]; exact fr_I (Or.inl ⟨rfl, rfl⟩))
  have us4 : ∃ u, us M4 s u := by
    refine ⟨u, c3.1, c3.2.1, ?_, fun i a b => ?_⟩
    · rw [hM4, pI_place (by decide)]; exact c3.2.2.1
    · rw [hM4]; exact c3.2.2.2 i a b
  have q4 : cQ Mz p n mk nm kb vb M4 := cQ_s hQ (sP_fs g4) us4 (by rw [g4.2.2.2.1 2 0 (sP_no (by decide))]) ⟨by rw [g4.2.2.2.1 13 3 (sP_no (by decide))]; exact hQ.2.2.2.2.2.2.2.2.1.1, by rw [g4.2.2.2.1 13 4 (sP_no (by decide))]; exact hQ.2.2.2.2.2.2.2.2.1.2⟩
  have t4 : tr M0 M4 c := tr_fr hr g4 (sP_no (by decide)) (sP_no (by decide)) (fun j hj => sP_11 hj)
  obtain ⟨M7, d1, d2, d3, d4⟩ := ht M4 s τ 1 t4.1 t4.2.1 t4.2.2.1 t4.2.2.2 q4.2.1 (by rw [g4.2.1]; exact hs) us4 (fun i hi => by
    have : sv M4 s i = sv M3 s i := by rw [hM4]; rfl
    rw [this, c2 i hi]
    exact hσ i hi) (Or.inl ⟨rfl, rfl⟩)
  rw [g4.1, x2, bd_some, d1, bd_some]
  have g7' : fr (sP s) M4 M7 := fr_sP d4
  have g7 : fr (sP s) M M7 := fr_trans g4 g7'
  have q7 : cQ Mz p n mk nm kb vb M7 := cQ_s hQ (sP_fs g7) d3 (by rw [g7.2.2.2.1 2 0 (sP_no (by decide))]) ⟨by rw [g7.2.2.2.1 13 3 (sP_no (by decide))]; exact hQ.2.2.2.2.2.2.2.2.1.1, by rw [g7.2.2.2.1 13 4 (sP_no (by decide))]; exact hQ.2.2.2.2.2.2.2.2.1.2⟩
  have t7 : tr M0 M7 c := tr_fr t4 g7' (sP_no (by decide)) (sP_no (by decide)) (fun j hj => sP_11 hj)
  have e47 : mI M7 4 0 = mI M 4 0 := g7.2.2.2.1 4 0 no4
  have k9 : mI M7 4 0 9 = nI W := by rw [e47]; exact m1
  have at7 : mI M7 9 s 2 = nI t := by
    have : mI M7 9 s = mI M4 9 s := d4.2.2.2.1 9 s cs9
    rw [this, hM4, pI_same]
    exact hx
  rw [g7.1, x4, bd_some, k9, g7.2.2.1, z2, gd_pos (ix_ok (by omega) (by decide)), nI_tn (by omega), st_eq, st_eq, pI_R, k9, nI_s, st_eq]
  obtain ⟨M8, hM8⟩ : ∃ M8, M8 = wR M7 17 1 W (some s) := ⟨_, rfl⟩
  obtain ⟨M9, hM9⟩ : ∃ M9, M9 = wI M8 4 0 9 (nI (W + 1)) := ⟨_, rfl⟩
  rw [← hM8, ← hM9]
  have k13 : mI M9 4 0 13 = nI (xMw X) := by rw [hM9, pI_place (by decide), hM8, pI_R, e47]; exact m4
  have k9' : mI M9 4 0 9 = nI (W + 1) := by rw [hM9, pI_same]
  rw [k13, k9', jimax_n (by omega) (by omega)]
  obtain ⟨mw, hmw⟩ : ∃ mw, mw = (if W + 1 ≤ xMw X then xMw X else W + 1) := ⟨_, rfl⟩
  rw [← hmw]
  have q8 : cQ Mz p n mk nm kb vb M8 := by rw [hM8]; exact cQ_R q7 (Or.inr (Or.inl rfl))
  have q9 : cQ Mz p n mk nm kb vb M9 := by rw [hM9]; exact cQ_4 q8
  obtain ⟨M10, hM10⟩ : ∃ M10, M10 = wI M9 4 0 13 (nI mw) := ⟨_, rfl⟩
  rw [← hM10]
  have q10 : cQ Mz p n mk nm kb vb M10 := by rw [hM10]; exact cQ_4 q9
  have f810 : fq M8 M10 := by rw [hM10, hM9]; exact fr_trans (fr_I (Or.inl rfl)) (fr_I (Or.inl rfl))
  have sm : ∀ j, ¬ j = s → sme M M10 j := fun j hj => sme_trans (fs_s (sP_fs g7) hj) (sme_trans (by rw [hM8]; exact ⟨e75_refl, rfl⟩) (fq_s f810))
  have row : wRow M10 s (a, t) := by
    refine wRow_s (fq_s f810) ?_
    rw [hM8]
    exact ⟨fun i hi => (d2 i hi).trans (ha i hi), at7⟩
  have i4 : ∀ f, ¬ f = 9 → ¬ f = 13 → mI M10 4 0 f = mI M 4 0 f := fun f f1 f2 => by rw [hM10, pI_place f2, hM9, pI_place f1, hM8, pI_R, e47]
  have hk : x_push X a t = (xNow X, xAt X, xIds X, xKn X, xKp X, W + 1, fup (xWt X) W (a, t), xVi X, mw, xPa X, xFa X) := by
    unfold x_push
    rw [← hWd, hmw]
  obtain ⟨L, hL⟩ : ∃ L, L = (if W < wa then wa else W + 1) := ⟨_, rfl⟩
  have hL1 : wa ≤ L ∧ L ≤ 200 ∧ W + 1 ≤ L ∧ (∀ j, j < L → j < wa ∨ j = W) := by
    rw [hL]
    rcases hwa with e | e
    · rw [if_neg (by omega)]
      exact ⟨by omega, by omega, by omega, fun j hj => by omega⟩
    · rw [if_pos e.1]
      exact ⟨by omega, by omega, by omega, fun j hj => by omega⟩
  obtain ⟨l1, l2, l3, l4⟩ := hL1
  have vL : ∀ j, vd ka L j → j = 201 + W ∨ (vd ka wa j ∧ ¬ j = 201 + W) := by
    intro j hj
    by_cases e : j = 201 + W
    · exact Or.inl e
    · refine Or.inr ⟨?_, e⟩
      rcases hj with z | z | z
      · exact Or.inl z
      · exact Or.inr (Or.inl z)
      · rcases l4 (j - 201) (by omega) with y | y
        · exact Or.inr (Or.inr ⟨z.1, by omega⟩)
        · omega
  have mR10 : ∀ k j f, ¬ k = 17 → mR M10 k j f = mR M k j f := fun k j f hk => by rw [hM10, pR_I, hM9, pR_I, hM8, pR_R, if_neg (fun z => hk z.1), g7.1]
  have mN10 : mN M10 = mN M := by rw [hM10, pN_I, hM9, pN_I, hM8, pN_R, g7.2.1]
  refine ⟨M10, rfl, q10, mN10, ?_, ?_, ?_, ?_⟩
  · rw [hk, ← hL]
    refine ⟨⟨p1, l2, p3, l3, ?_, ?_, ?_, ?_, ?_⟩, ⟨?_, ?_, ?_⟩, ?_, ⟨?_, ?_, ?_, ?_, ?_⟩, ?_⟩
    · rw [mR10 4 _ _ (by decide), fup_o (by omega)]; exact p5
    · intro i hi
      rw [hM10, pR_I, hM9, pR_I, hM8, pR_R, if_neg (fun z => absurd z.2.1 (by decide)), g7.1, p6 i hi, fup_o (by omega)]
    · intro i hi
      rw [hM10, pR_I, hM9, pR_I, hM8, pR_R]
      by_cases e : i = W
      · rw [if_pos ⟨rfl, rfl, e⟩, if_pos (by omega), e, fup_s]
      · rw [if_neg (fun z => e z.2.2), g7.1, p7 i hi, fup_o (by omega)]
        by_cases lt : i < wa
        · rw [if_pos lt, if_pos (by omega)]
        · rw [if_neg lt, if_neg (by
            intro z
            rcases l4 i (by omega) with y | y <;> omega)]
    · intro j hj
      rw [mN10]
      rcases vL j hj with e | e
      · rw [e, fup_s]; exact ⟨hs, hs1⟩
      · rw [fup_o e.2]; exact p8 j e.1
    · intro i j hi hj
      rcases vL i hi with e | e <;> rcases vL j hj with f | f
      · intro _; rw [e, f]
      · rw [e, fup_s, fup_o f.2]; intro z; exact absurd z.symm (hd j f.1 f.2)
      · rw [f, fup_s, fup_o e.2]; intro z; exact absurd z (hd i e.1 e.2)
      · rw [fup_o e.2, fup_o f.2]; exact p9 i j e.1 f.1
    · show wRow _ (fup P (201 + W) s 0) _
      rw [fup_o (by omega)]
      exact wRow_s (sm _ st0) r1
    · intro i hi
      have hi2 : i < xKn X := hi
      show kRow _ (fup P (201 + W) s (i + 1)) (xKp X i)
      rw [fup_o (by omega)]
      exact kRow_s (sm _ (hd (i + 1) (vd_k (by omega)) (by omega))) (r2 i hi)
    · intro i hi
      have hi2 : i < W + 1 := hi
      show wRow _ (fup P (201 + W) s (201 + i)) (fup (xWt X) W (a, t) i)
      by_cases e : i = W
      · rw [e, fup_s, fup_s]; exact row
      · rw [fup_o (by omega), fup_o e]
        exact wRow_s (sm _ (hd (201 + i) (vd_w (by omega)) (by omega))) (r3 i (by omega))
    · rw [hM10, wI_j (by decide), hM9, wI_j (by decide), hM8, pI_R, g7.2.2.2.1 7 0 (sP_no (by decide))]; exact h3
    · show mI M10 4 0 9 = nI (W + 1)
      rw [hM10, pI_place (by decide)]
      exact k9'
    · rw [i4 11 (by decide) (by decide)]; exact m2
    · rw [i4 12 (by decide) (by decide)]; exact m3
    · rw [hM10]; exact pI_same
    · rw [i4 14 (by decide) (by decide)]; exact m5
    · have f7 := sF (t := s) (fr_mono g7 (fun k j z => Or.inl z)) h5
      have f8 : cFac n M8 (xFa X) := by rw [hM8]; exact f7
      rw [hM10, hM9]
      exact cFac_w (by omega) (cFac_w (by omega) f8)
  · rw [hM10, hM9]
    have t8 : tr M0 M8 c := by rw [hM8]; exact tr_R t7 (by decide)
    exact tr_fr (Q := fun k j => k = 4) (tr_fr (Q := fun k j => k = 4) t8 (fr_I rfl) (by decide) (by decide) (fun _ _ => by decide)) (fr_I rfl) (by decide) (by decide) (fun _ _ => by decide)
  · intro i hi
    rw [(sm _ st0).1 i hi]
    exact hσ i hi
  · exact i4 10 (by decide) (by decide)
end CH
