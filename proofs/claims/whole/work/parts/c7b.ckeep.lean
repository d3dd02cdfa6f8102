/-! PURE: the class explores: states in a pool; a state is kept or held back. -/
abbrev vd (ka wa j : Nat) : Prop := j = 0 ∨ (1 ≤ j ∧ j ≤ ka) ∨ (201 ≤ j ∧ j < 201 + wa)
/-- which states are now (0), kept (1 ..), waiting (201 ..) -/
def cPool (M : me_M) (P : Nat → Nat) (ka wa : Nat) (X : xT) : Prop := ka ≤ 200 ∧ wa ≤ 200 ∧ xKn X ≤ ka ∧ xWn X ≤ wa ∧ mR M 4 0 8 = some (P 0) ∧ (∀ i, i < 200 → mR M 17 0 i = if i < ka then some (P (i + 1)) else none) ∧ (∀ i, i < 200 → mR M 17 1 i = if i < wa then some (P (201 + i)) else none) ∧ (∀ j, vd ka wa j → P j < mN M 9 ∧ ¬ P j = 1) ∧ ∀ i j, vd ka wa i → vd ka wa j → P i = P j → i = j
def kRow (M : me_M) (s : Nat) (k : xK) : Prop := e75 (sv M s) k.1 ∧ mI M 9 s 2 = nI k.2.1 ∧ mI M 9 s 4 = b1 k.2.2.1 ∧ mI M 9 s 3 = nI k.2.2.2
def wRow (M : me_M) (s : Nat) (w : xW) : Prop := e75 (sv M s) w.1 ∧ mI M 9 s 2 = nI w.2
def cRow (M : me_M) (P : Nat → Nat) (X : xT) : Prop := wRow M (P 0) (xNow X, xAt X) ∧ (∀ i, i < xKn X → kRow M (P (i + 1)) (xKp X i)) ∧ ∀ i, i < xWn X → wRow M (P (201 + i)) (xWt X i)
def cNum (M : me_M) (X : xT) : Prop := mI M 4 0 9 = nI (xWn X) ∧ mI M 4 0 11 = nI (xKn X) ∧ mI M 4 0 12 = nI (xVi X) ∧ mI M 4 0 13 = nI (xMw X) ∧ mI M 4 0 14 = nI (xPa X)
def cFac (n : Nat) (M : me_M) (F : xF) : Prop := ∀ s, s < n → mI M 13 0 s = F.1 s ∧ mI M 15 4 s = b1 (F.2.1 s) ∧ mI M 15 5 s = b1 (F.2.2.1 s) ∧ mI M 13 1 s = F.2.2.2.1 s ∧ (F.2.2.2.1 s = 1 → mL M 16 2 s = F.2.2.2.2 s) ∧ (F.2.2.2.1 s = 0 ∨ F.2.2.2.1 s = 1 ∨ F.2.2.2.1 s = 2)
def cE (n : Nat) (M : me_M) (P : Nat → Nat) (ka wa : Nat) (X : xT) : Prop := cPool M P ka wa X ∧ cRow M P X ∧ mI M 7 0 7 = xIds X ∧ cNum M X ∧ cFac n M (xFa X)
def cRoom (M : me_M) (ka wa : Nat) : Prop := mN M 9 = 2 + ka + wa ∧ me_cN (mN M) + 152 * (402 - mN M 9) ≤ me_CL ∧ me_sN (mN M) + 1055 * (402 - mN M 9) ≤ me_SL
section CK
variable {Mz : me_M} {p : Nat → Int64} {n nm B : Nat} {sec mk : Nat → Prop} {kb vb : Int32 → Int32} {X : xT} {c : Int64} {M M1 M2 : me_M} {s t ka wa : Nat} {P : Nat → Nat}
theorem kRow_s {k : xK} (h : sme M M1 s) (g : kRow M s k) : kRow M1 s k := ⟨e75_trans h.1 g.1, by rw [h.2]; exact g.2.1, by rw [h.2]; exact g.2.2.1, by rw [h.2]; exact g.2.2.2⟩
theorem wRow_s {w : xW} (h : sme M M1 s) (g : wRow M s w) : wRow M1 s w := ⟨e75_trans h.1 g.1, by rw [h.2]; exact g.2⟩
theorem vd_0 : vd ka wa 0 := Or.inl rfl
theorem vd_k {i : Nat} (h : i < ka) : vd ka wa (i + 1) := Or.inr (Or.inl ⟨by omega, by omega⟩)
theorem vd_w {i : Nat} (h : i < wa) : vd ka wa (201 + i) := Or.inr (Or.inr ⟨by omega, by omega⟩)
/-- counts and facts anew, states as they were -/
theorem cE_q (h : cE n M P ka wa X) (g : fq M M1) {vi mw pa : Nat} {F : xF} {d : Int32} (hd : mI M1 7 0 7 = d) (h9 : mI M1 4 0 9 = mI M 4 0 9) (h11 : mI M1 4 0 11 = mI M 4 0 11) (hN : mI M1 4 0 12 = nI vi ∧ mI M1 4 0 13 = nI mw ∧ mI M1 4 0 14 = nI pa) (hF : cFac n M1 F) : cE n M1 P ka wa (xNow X, xAt X, d, xKn X, xKp X, xWn X, xWt X, vi, mw, pa, F) := by
  obtain ⟨⟨p1, p2, p3, p4, p5, p6, p7, p8, p9⟩, ⟨r1, r2, r3⟩, h3, ⟨n1', n2', n3'⟩, h5⟩ := h
  refine ⟨⟨p1, p2, p3, p4, ?_, ?_, ?_, ?_, p9⟩, ⟨wRow_s (fq_s g) r1, fun i hi => kRow_s (fq_s g) (r2 i hi), fun i hi => wRow_s (fq_s g) (r3 i hi)⟩, hd, ⟨h9.trans n1', h11.trans n2', hN⟩, hF⟩
  · rw [g.1]; exact p5
  · rw [g.1]; exact p6
  · rw [g.1]; exact p7
  · rw [g.2.1]; exact p8
/-- the state now is changed -/
theorem cE_s (h : cE n M P ka wa X) (g : fs (P 0) M M1) {σ : sT} {a vi mw pa : Nat} {F : xF} {d : Int32} (h0 : wRow M1 (P 0) (σ, a)) (hd : mI M1 7 0 7 = d) (h9 : mI M1 4 0 9 = mI M 4 0 9) (h11 : mI M1 4 0 11 = mI M 4 0 11) (hN : mI M1 4 0 12 = nI vi ∧ mI M1 4 0 13 = nI mw ∧ mI M1 4 0 14 = nI pa) (hF : cFac n M1 F) : cE n M1 P ka wa (σ, a, d, xKn X, xKp X, xWn X, xWt X, vi, mw, pa, F) := by
  obtain ⟨⟨p1, p2, p3, p4, p5, p6, p7, p8, p9⟩, ⟨r1, r2, r3⟩, h3, ⟨n1', n2', n3'⟩, h5⟩ := h
  refine ⟨⟨p1, p2, p3, p4, ?_, ?_, ?_, ?_, p9⟩, ⟨h0, fun i hi => kRow_s (fs_s g ?_) (r2 i hi), fun i hi => wRow_s (fs_s g ?_) (r3 i hi)⟩, hd, ⟨h9.trans n1', h11.trans n2', hN⟩, hF⟩
  · rw [g.1]; exact p5
  · rw [g.1]; exact p6
  · rw [g.1]; exact p7
  · rw [g.2.1]; exact p8
  · intro e
    have hi2 : i < xKn X := hi
    have := p9 _ _ (vd_k (by omega)) vd_0 e
    omega
  · intro e
    have hi2 : i < xWn X := hi
    have := p9 _ _ (vd_w (by omega)) vd_0 e
    omega
theorem cE_R7 (h : cE n M P ka wa X) {f : Nat} {v : Option Nat} : cE n (wR M 7 0 f v) P ka wa X := by
  obtain ⟨⟨p1, p2, p3, p4, p5, p6, p7, p8, p9⟩, h2⟩ := h
  refine ⟨⟨p1, p2, p3, p4, ?_, fun i hi => ?_, fun i hi => ?_, p8, p9⟩, h2⟩
  · rw [pR_R, if_neg (fun z => absurd z.1 (by decide))]; exact p5
  · rw [pR_R, if_neg (fun z => absurd z.1 (by decide))]; exact p6 i hi
  · rw [pR_R, if_neg (fun z => absurd z.1 (by decide))]; exact p7 i hi
theorem pP_q {k j : Nat} (h : pP k j) : qP k j := by
  rcases h with z | z
  · exact Or.inl z.1
  · exact Or.inr (Or.inr (Or.inr (Or.inr (Or.inr (Or.inl ⟨z.1, by omega⟩)))))
theorem pf7_q (h : pf7 M M1) : fq M M1 := fr_mono h.1 (fun _ _ => pP_q)
theorem pf7_F {F : xF} (h : pf7 M M1) (g : cFac n M F) : cFac n M1 F := by
  have e1 : mI M1 13 0 = mI M 13 0 := h.1.2.2.2.1 13 0 (by rintro (z | z) <;> omega)
  have e2 : mI M1 13 1 = mI M 13 1 := h.1.2.2.2.1 13 1 (by rintro (z | z) <;> omega)
  have e3 : mI M1 15 4 = mI M 15 4 := h.1.2.2.2.1 15 4 (by rintro (z | z) <;> omega)
  have e4 : mI M1 15 5 = mI M 15 5 := h.1.2.2.2.1 15 5 (by rintro (z | z) <;> omega)
  have e5 : mL M1 16 2 = mL M 16 2 := h.1.2.2.2.2 16 2 (by rintro (z | z) <;> omega)
  intro s hs
  rw [e1, e2, e3, e4, e5]
  exact g s hs
theorem cE_p (h : cE n M P ka wa X) (g : pf7 M M1) : cE n M1 P ka wa X := by
  have e7 : mI M1 7 0 = mI M 7 0 := g.1.2.2.2.1 7 0 (by rintro (z | z) <;> omega)
  exact cE_q h (pf7_q g) (by rw [e7]; exact h.2.2.1) (g.2.1 9 (by decide)) (g.2.1 11 (by decide)) ⟨(g.2.1 12 (by decide)).trans h.2.2.2.1.2.2.1, (g.2.1 13 (by decide)).trans h.2.2.2.1.2.2.2.1, (g.2.1 14 (by decide)).trans h.2.2.2.1.2.2.2.2⟩ (pf7_F g h.2.2.2.2)
theorem cQ_p (h : cQ Mz p n mk nm kb vb M) (g : pf7 M M1) : cQ Mz p n mk nm kb vb M1 := cQ_q h (pf7_q g) (by rw [g.1.2.2.2.1 2 0 (by rintro (z | z) <;> omega)]) ⟨g.2.2.1.trans h.2.2.2.2.2.2.2.2.1.1, g.2.2.2.trans h.2.2.2.2.2.2.2.2.1.2⟩
/-- facts are left alone by what changes a state and the Explorer alone -/
theorem sF {F : xF} {t : Nat} (h : fr (fun k j => sP t k j ∨ k = 4 ∨ k = 7 ∨ (k = 10 ∧ j = 0) ∨ (k = 11 ∧ j < 11)) M M1) (g : cFac n M F) : cFac n M1 F := by
  have no : ∀ k j, (k = 13 ∨ k = 15 ∨ k = 16) → ¬ (sP t k j ∨ k = 4 ∨ k = 7 ∨ (k = 10 ∧ j = 0) ∨ (k = 11 ∧ j < 11)) := by
    intro k j hk
    rintro (z | z)
    · exact sP_no (by omega) z
    · omega
  intro s hs
  rw [h.2.2.2.1 13 0 (no _ _ (by decide)), h.2.2.2.1 13 1 (no _ _ (by decide)), h.2.2.2.1 15 4 (no _ _ (by decide)), h.2.2.2.1 15 5 (no _ _ (by decide)), h.2.2.2.2 16 2 (no _ _ (by decide))]
  exact g s hs
/-- a state is put into the pool: kept -/
theorem ckeep (hQ : cQ Mz p n mk nm kb vb M) (h : cE n M P ka wa X) (hK : xKn X < 200) (hW : xWn X ≤ 200) (hka : ka = xKn X ∨ (xKn X < ka ∧ s = P (xKn X + 1))) (hs : s < mN M 9) (hs1 : ¬ s = 1) (hd : ∀ j, vd ka wa j → ¬ j = xKn X + 1 → ¬ P j = s) (h10 : mI M 4 0 10 = 0) : ∃ M1, f_Explorer_meetKept_b124 0 M s = some (M1, 0) ∧ cQ Mz p n mk nm kb vb M1 ∧ mN M1 = mN M ∧ cE n M1 (fup P (xKn X + 1) s) (if xKn X < ka then ka else xKn X + 1) wa (x_keep X) ∧ mI M1 4 0 10 = 0 := by
  obtain ⟨x0, x1, x2, x3, x4, x5, x6, z1, z2, z3, z4⟩ := hQ.1
  obtain ⟨⟨p1, p2, p3, p4, p5, p6, p7, p8, p9⟩, ⟨r1, r2, r3⟩, h3, ⟨m1, m2, m3, m4, m5⟩, h5⟩ := h
  obtain ⟨K, hKd⟩ : ∃ K, K = xKn X := ⟨_, rfl⟩
  rw [← hKd] at hK hka hd p3 r2 m2 ⊢
  have t0 := (p8 0 vd_0).1
  have st0 : ¬ P 0 = s := hd 0 vd_0 (by omega)
  obtain ⟨w, hw⟩ := hQ.2.2.2.2.2.2.2.2.2 s hs
  obtain ⟨u, hu⟩ := hQ.2.2.2.2.2.2.2.2.2 (P 0) t0
  obtain ⟨M3, c1, c2, c3, c4, c5, c6, c7⟩ := st_copy hQ.2.1 hs t0 st0 hw hu
  unfold f_Explorer_meetKept_b124
  rw [p5, bd_some, c1, bd_some, st_eq, st_eq]
  have no4 : ¬ sP s 4 0 := sP_no (by decide)
  have e4 : mI M3 4 0 = mI M 4 0 := c7.2.2.2.1 4 0 no4
  obtain ⟨M5, hM5⟩ : ∃ M5, M5 = wI (wI M3 9 s 4 1) 9 s 3 (nI (xWn X)) := ⟨_, rfl⟩
  have e9 : mI (wI M3 9 s 4 1) 4 0 9 = nI (xWn X) := by rw [wI_j (fun z => absurd z.1 (by decide)), e4]; exact m1
  rw [e9, ← hM5]
  have g5 : fr (sP s) M M5 := fr_trans c7 (by rw [hM5]; exact fr_trans (fr_I (Or.inl ⟨rfl, rfl⟩)) (fr_I (Or.inl ⟨rfl, rfl⟩)))
  have e45 : mI M5 4 0 = mI M 4 0 := g5.2.2.2.1 4 0 no4
  have k11 : mI M5 4 0 11 = nI K := by rw [e45]; exact m2
  rw [g5.1, x3, bd_some, k11, g5.2.2.1, z1, gd_pos (ix_ok (by omega) (by decide)), nI_tn (by omega), st_eq, st_eq, pI_R, k11, nI_s]
  obtain ⟨M9, hM9⟩ : ∃ M9, M9 = wR M5 17 0 K (some s) := ⟨_, rfl⟩
  rw [← hM9]
  have sv5 : ∀ i, i < 75 → sv M5 s i = sv M (P 0) i := by
    intro i hi
    rw [hM5]
    exact c2 i hi
  have us5 : us M5 s u := by
    refine ⟨c3.1, c3.2.1, ?_, fun i a b => ?_⟩
    · rw [hM5, pI_place (by decide), pI_place (by decide)]; exact c3.2.2.1
    · rw [hM5]; exact c3.2.2.2 i a b
  have q5 : cQ Mz p n mk nm kb vb M5 := cQ_s hQ (sP_fs g5) ⟨u, us5⟩ (by rw [g5.2.2.2.1 2 0 (sP_no (by decide))]) ⟨by rw [g5.2.2.2.1 13 3 (sP_no (by decide))]; exact hQ.2.2.2.2.2.2.2.2.1.1, by rw [g5.2.2.2.1 13 4 (sP_no (by decide))]; exact hQ.2.2.2.2.2.2.2.2.1.2⟩
  have q9 : cQ Mz p n mk nm kb vb M9 := by rw [hM9]; exact cQ_R q5 (Or.inr (Or.inl rfl))
  have f10 : fq M9 (wI M9 4 0 11 (nI (K + 1))) := fr_I (Or.inl rfl)
  have q10 : cQ Mz p n mk nm kb vb (wI M9 4 0 11 (nI (K + 1))) := cQ_q q9 f10 (wI_j (by decide)) ⟨by rw [wI_j (by decide)]; exact q9.2.2.2.2.2.2.2.2.1.1, by rw [wI_j (by decide)]; exact q9.2.2.2.2.2.2.2.2.1.2⟩
  have sm : ∀ j, ¬ j = s → sme M (wI M9 4 0 11 (nI (K + 1))) j := fun j hj => sme_trans (fs_s (sP_fs g5) hj) (sme_trans (by rw [hM9]; exact ⟨e75_refl, rfl⟩) (fq_s f10))
  have row : kRow (wI M9 4 0 11 (nI (K + 1))) s (xNow X, xAt X, True, xWn X) := by
    refine kRow_s (fq_s f10) ?_
    rw [hM9]
    refine ⟨fun i hi => (sv5 i hi).trans (r1.1 i hi), ?_, ?_, ?_⟩
    · show mI M5 9 s 2 = nI (xAt X)
      rw [hM5, pI_place (by decide), pI_place (by decide), c4]
      exact r1.2
    · show mI M5 9 s 4 = b1 True
      rw [hM5, pI_place (by decide), pI_same, b1_t trivial]
    · show mI M5 9 s 3 = nI (xWn X)
      rw [hM5, pI_same]
  have i4 : ∀ f, ¬ f = 11 → mI (wI M9 4 0 11 (nI (K + 1))) 4 0 f = mI M 4 0 f := fun f hf => by rw [pI_place hf, hM9, pI_R, e45]
  have hk : x_keep X = (xNow X, xAt X, xIds X, K + 1, fup (xKp X) K (xNow X, xAt X, True, xWn X), xWn X, xWt X, xVi X, xMw X, xPa X, xFa X) := by
    unfold x_keep
    rw [if_pos (by omega), ← hKd]
  have ka' : (if K < ka then ka else K + 1) = (if K < ka then ka else K + 1) := rfl
  obtain ⟨L, hL⟩ : ∃ L, L = (if K < ka then ka else K + 1) := ⟨_, rfl⟩
  have hL1 : ka ≤ L ∧ L ≤ 200 ∧ K + 1 ≤ L ∧ (∀ j, j ≤ L → j ≤ ka ∨ j = K + 1) := by
    rw [hL]
    rcases hka with e | e
    · rw [if_neg (by omega)]
      exact ⟨by omega, by omega, by omega, fun j hj => by omega⟩
    · rw [if_pos e.1]
      exact ⟨by omega, by omega, by omega, fun j hj => by omega⟩
  obtain ⟨l1, l2, l3, l4⟩ := hL1
  have vL : ∀ j, vd L wa j → j = K + 1 ∨ (vd ka wa j ∧ ¬ j = K + 1) := by
    intro j hj
    by_cases e : j = K + 1
    · exact Or.inl e
    · refine Or.inr ⟨?_, e⟩
      rcases hj with z | z | z
      · exact Or.inl z
      · rcases l4 j z.2 with y | y
        · exact Or.inr (Or.inl ⟨z.1, y⟩)
        · exact absurd y e
      · exact Or.inr (Or.inr z)
  refine ⟨_, rfl, q10, ?_, ?_, ?_⟩
  · rw [pN_I, hM9, pN_R, g5.2.1]
  · rw [hk, ← hL]
    refine ⟨⟨l2, p2, l3, p4, ?_, ?_, ?_, ?_, ?_⟩, ⟨?_, ?_, ?_⟩, ?_, ⟨?_, ?_, ?_, ?_, ?_⟩, ?_⟩
    · rw [pR_I, hM9, pR_R, if_neg (fun z => absurd z.1 (by decide)), g5.1, fup_o (by omega)]; exact p5
    · intro i hi
      rw [pR_I, hM9, pR_R]
      by_cases e : i = K
      · rw [if_pos ⟨rfl, rfl, e⟩, if_pos (by omega), e, fup_s]
      · rw [if_neg (fun z => e z.2.2), g5.1, p6 i hi, fup_o (by omega)]
        by_cases lt : i < ka
        · rw [if_pos lt, if_pos (by omega)]
        · rw [if_neg lt, if_neg (by
            intro z
            rcases l4 (i + 1) (by omega) with y | y <;> omega)]
    · intro i hi
      rw [pR_I, hM9, pR_R, if_neg (fun z => absurd z.2.1 (by decide)), g5.1, p7 i hi, fup_o (by omega)]
    · intro j hj
      rw [pN_I, hM9, pN_R, g5.2.1]
      rcases vL j hj with e | e
      · rw [e, fup_s]; exact ⟨hs, hs1⟩
      · rw [fup_o e.2]; exact p8 j e.1
    · intro i j hi hj
      rcases vL i hi with e | e <;> rcases vL j hj with f | f
      · intro _; rw [e, f]
      · rw [e, fup_s, fup_o f.2]; intro z; exact absurd z.symm (hd j f.1 f.2)
      · rw [f, fup_s, fup_o e.2]; intro z; exact absurd z (hd i e.1 e.2)
      · rw [fup_o e.2, fup_o f.2]; exact p9 i j e.1 f.1
    · show wRow _ (fup P (K + 1) s 0) _
      rw [fup_o (by omega)]
      exact wRow_s (sm _ st0) r1
    · intro i hi
      have hi2 : i < K + 1 := hi
      show kRow _ (fup P (K + 1) s (i + 1)) (fup (xKp X) K (xNow X, xAt X, True, xWn X) i)
      by_cases e : i = K
      · rw [e, fup_s, fup_s]; exact row
      · rw [fup_o (by omega), fup_o e]
        exact kRow_s (sm _ (hd (i + 1) (vd_k (by omega)) (by omega))) (r2 i (by omega))
    · intro i hi
      have hi2 : i < xWn X := hi
      show wRow _ (fup P (K + 1) s (201 + i)) _
      rw [fup_o (by omega)]
      exact wRow_s (sm _ (hd (201 + i) (vd_w (by omega)) (by omega))) (r3 i hi)
    · rw [wI_j (by decide), hM9, pI_R, g5.2.2.2.1 7 0 (sP_no (by decide))]; exact h3
    · rw [i4 9 (by decide)]; exact m1
    · exact pI_same
    · rw [i4 12 (by decide)]; exact m3
    · rw [i4 13 (by decide)]; exact m4
    · rw [i4 14 (by decide)]; exact m5
    · have := sF (t := s) (fr_mono g5 (fun k j z => Or.inl z)) h5
      intro q hq
      rw [wI_j (by decide), wI_j (by decide), wI_j (by decide), wI_j (by decide), pL_I, hM9, pI_R, pL_R]
      exact this q hq
  · rw [i4 10 (by decide)]; exact h10
end CK
