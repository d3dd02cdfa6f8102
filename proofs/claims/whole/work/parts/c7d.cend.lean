/-! PURE: the class ends a path. -/
/-- the first y kept states are closed, as far as they are to be -/
noncomputable def x_sh (X : xT) (y : Nat) : xT := (xNow X, xAt X, xIds X, xKn X, fun i => ic (i < y) (x_shut X i) (xKp X i), xWn X, xWt X, xVi X, xMw X, xPa X + 1, xFa X)
section CN
variable {Mz : me_M} {p : Nat → Int64} {n nm B : Nat} {sec mk : Nat → Prop} {kb vb : Int32 → Int32} {X : xT} {c : Int64} {M M1 M2 N : me_M} {s t ka wa : Nat} {P : Nat → Nat}
theorem cFac_w {F : xF} {k j f : Nat} {v : Int32} (h : k = 4 ∨ k = 9 ∨ k = 7 ∨ k = 2) (g : cFac n M F) : cFac n (wI M k j f v) F := by
  intro q hq
  rw [wI_j (by omega), wI_j (by omega), wI_j (by omega), wI_j (by omega), pL_I]
  exact g q hq
/-- a state's own ints are written -/
theorem cQ_9 (h : cQ Mz p n mk nm kb vb M) {f : Nat} {v : Int32} (hf : ¬ f = 1) (hs : s < mN M 9) : cQ Mz p n mk nm kb vb (wI M 9 s f v) := by
  obtain ⟨u, hu⟩ := h.2.2.2.2.2.2.2.2.2 s hs
  refine cQ_s (t := s) h (sP_fs (fr_I (Or.inl ⟨rfl, rfl⟩))) ⟨u, hu.1, hu.2.1, ?_, hu.2.2.2⟩ (wI_j (fun z => absurd z.1 (by decide))) ⟨?_, ?_⟩
  · rw [pI_place (fun z => hf z.symm)]; exact hu.2.2.1
  · rw [wI_j (fun z => absurd z.1 (by decide))]; exact h.2.2.2.2.2.2.2.2.1.1
  · rw [wI_j (fun z => absurd z.1 (by decide))]; exact h.2.2.2.2.2.2.2.2.1.2
theorem cQ_4 (h : cQ Mz p n mk nm kb vb M) {f : Nat} {v : Int32} : cQ Mz p n mk nm kb vb (wI M 4 0 f v) := cQ_q h (fr_I (Or.inl rfl)) (wI_j (by decide)) ⟨by rw [wI_j (by decide)]; exact h.2.2.2.2.2.2.2.2.1.1, by rw [wI_j (by decide)]; exact h.2.2.2.2.2.2.2.2.1.2⟩
theorem nI_prd {W : Nat} : nI (W + 1) - 1 = nI W := by rw [← nI_s, Int32.add_sub_cancel]
theorem cend_l (hK : xKn X ≤ 200) (hW : xWn X ≤ 200) (hka : ∀ i, i < xKn X → (xKp X i).2.2.2 ≤ 200) : ∀ (m y fu : Nat) (N : me_M), y + m = xKn X → m < fu → cQ Mz p n mk nm kb vb N → cE n N P ka wa (x_sh X y) → ∃ N1 fu1, f_Explorer_takeLatest_l12 0 fu N (nI y) = f_Explorer_takeLatest_l12 0 (fu1 + 1) N1 (nI (xKn X)) ∧ cQ Mz p n mk nm kb vb N1 ∧ cE n N1 P ka wa (x_sh X (xKn X)) ∧ mN N1 = mN N := by
  intro m
  induction m with
  | zero =>
    intro y fu N e hf qN xN
    obtain ⟨fu, rfl⟩ : ∃ f, fu = f + 1 := ⟨fu - 1, by omega⟩
    rw [show y = xKn X by omega] at xN ⊢
    exact ⟨N, fu, rfl, qN, xN, rfl⟩
  | succ m ih =>
    intro y fu N e hf qN xN
    obtain ⟨fu, rfl⟩ : ∃ f, fu = f + 1 := ⟨fu - 1, by omega⟩
    have yk : y < xKn X := by omega
    have k11 : mI N 4 0 11 = nI (xKn X) := xN.2.2.2.1.2.1
    have k9 : mI N 4 0 9 = nI (xWn X) := xN.2.2.2.1.1
    obtain ⟨x0, x1, x2, x3, x4, x5, x6, z1, z2, z3, z4⟩ := qN.1
    have pka : xKn X ≤ ka := xN.1.2.2.1
    have slot := xN.1.2.2.2.2.2.1 y (by omega)
    rw [if_pos (show y < ka by omega)] at slot
    have v := vd_k (ka := ka) (wa := wa) (show y < ka by omega)
    have pp := (xN.1.2.2.2.2.2.2.2.1 _ v).1
    have rk : kRow N (P (y + 1)) (xKp X y) := by
      have := xN.2.1.2.1 y yk
      rw [show xKp (x_sh X y) y = xKp X y from ic_f (by omega)] at this
      exact this
    have ky := hka y yk
    rw [f_Explorer_takeLatest_l12, k11, if_neg (fun z => by have := (nI_lei (by omega) (by omega)).mp z; omega), x3, bd_some, z1, gd_pos (ix_ok (by omega) (by decide)), nI_tn (by omega), slot, bd_some, rk.2.2.2, k9, nI_s]
    -- one more row
    have step : ∀ N2, kRow N2 (P (y + 1)) (x_shut X y) → fs (P (y + 1)) N N2 → mI N2 7 0 = mI N 7 0 → mI N2 4 0 = mI N 4 0 → cFac n N2 (xFa X) → cE n N2 P ka wa (x_sh X (y + 1)) := by
      intro N2 hr g e7 e4 hF
      obtain ⟨⟨p1, p2, p3, p4, p5, p6, p7, p8, p9⟩, ⟨r1, r2, r3⟩, h3, h4, h5⟩ := xN
      refine ⟨⟨p1, p2, p3, p4, by rw [g.1]; exact p5, by rw [g.1]; exact p6, by rw [g.1]; exact p7, by rw [g.2.1]; exact p8, p9⟩, ⟨wRow_s (fs_s g (fun z => by have := p9 _ _ vd_0 v z; omega)) r1, fun i hi => ?_, fun i hi => ?_⟩, by rw [e7]; exact h3, ?_, hF⟩
      · have hi2 : i < xKn X := hi
        show kRow N2 (P (i + 1)) (ic (i < y + 1) (x_shut X i) (xKp X i))
        by_cases ei : i = y
        · rw [ei, ic_t (by omega)]; exact hr
        · have old := r2 i hi
          have o2 : kRow N (P (i + 1)) (ic (i < y) (x_shut X i) (xKp X i)) := old
          have n2 : kRow N2 (P (i + 1)) (ic (i < y) (x_shut X i) (xKp X i)) := kRow_s (fs_s g (fun z => by have := p9 _ _ (vd_k (by omega)) v z; omega)) o2
          by_cases lt : i < y
          · rw [ic_t lt] at n2
            rw [ic_t (by omega)]
            exact n2
          · rw [ic_f lt] at n2
            rw [ic_f (by omega)]
            exact n2
      · have hi2 : i < xWn X := hi
        have p4' : xWn X ≤ wa := p4
        exact wRow_s (fs_s g (fun z => by have := p9 _ _ (vd_w (by omega)) v z; omega)) (r3 i hi)
      · unfold cNum at h4 ⊢
        rw [e4]
        exact h4
    by_cases lt : (xKp X y).2.2.2 < xWn X
    · rw [if_pos ((nI_lti (by omega) (by omega)).mpr lt)]
      refine ih (y + 1) fu N (by omega) (by omega) qN (step N ⟨rk.1, rk.2.1, ?_, rk.2.2.2⟩ fr_refl rfl rfl xN.2.2.2.2)
      rw [rk.2.2.1]
      exact b1_c ⟨fun z => ⟨z, lt⟩, fun z => z.1⟩
    · rw [if_neg (fun z => lt ((nI_lti (by omega) (by omega)).mp z)), st_eq]
      have g : fs (P (y + 1)) N (wI N 9 (P (y + 1)) 4 0) := sP_fs (fr_I (Or.inl ⟨rfl, rfl⟩))
      have kk : kRow (wI N 9 (P (y + 1)) 4 0) (P (y + 1)) (x_shut X y) := by
        refine ⟨rk.1, ?_, ?_, ?_⟩
        · rw [pI_place (by decide)]; exact rk.2.1
        · rw [pI_same]
          exact (b1_f (fun z => lt z.2)).symm
        · rw [pI_place (by decide)]; exact rk.2.2.2
      exact ih (y + 1) fu (wI N 9 (P (y + 1)) 4 0) (by omega) (by omega) (cQ_9 qN (by decide) pp) (step _ kk g (by funext f; exact wI_j (fun z => absurd z.1 (by decide))) (by funext f; exact wI_j (fun z => absurd z.1 (by decide))) (cFac_w (by omega) xN.2.2.2.2))
theorem cend (hQ : cQ Mz p n mk nm kb vb M) (h : cZ n M X) (hK : xKn X ≤ 200) (hW : xWn X ≤ 200) (hka : ∀ i, i < xKn X → (xKp X i).2.2.2 ≤ 200) : ∃ M1, f_Explorer_takeLatest M 0 = some (M1, if xWn X = 0 then 0 else 1) ∧ cQ Mz p n mk nm kb vb M1 ∧ cZ n M1 (x_end X).2 := by
  obtain ⟨P, ka, wa, hE, hR⟩ := h
  unfold f_Explorer_takeLatest
  rw [st_eq, hE.2.2.2.1.2.2.2.2, nI_s]
  have g14 : fq M (wI M 4 0 14 (nI (xPa X + 1))) := fr_I (Or.inl rfl)
  have e0 : cE n (wI M 4 0 14 (nI (xPa X + 1))) P ka wa (x_sh X 0) := by
    have := cE_q (d := xIds X) (vi := xVi X) (mw := xMw X) (pa := xPa X + 1) hE g14 (by rw [wI_j (by decide)]; exact hE.2.2.1) (pI_place (by decide)) (pI_place (by decide)) ⟨by rw [pI_place (by decide)]; exact hE.2.2.2.1.2.2.1, by rw [pI_place (by decide)]; exact hE.2.2.2.1.2.2.2.1, pI_same⟩ (cFac_w (by omega) hE.2.2.2.2)
    have ek : (fun i => ic (i < 0) (x_shut X i) (xKp X i)) = xKp X := by funext i; exact ic_f (Nat.not_lt_zero i)
    unfold x_sh
    rw [ek]
    exact this
  obtain ⟨N, fu, q1, q2, q3, q4⟩ := cend_l hK hW hka (xKn X) 0 fuel _ (by omega) (by unfold fuel; omega) (cQ_4 hQ) e0
  rw [show f_Explorer_takeLatest_l12 0 fuel (wI M 4 0 14 (nI (xPa X + 1))) (0 : Int32) = f_Explorer_takeLatest_l12 0 (fu + 1) N (nI (xKn X)) from q1]
  rw [pN_I] at q4
  have k11 : mI N 4 0 11 = nI (xKn X) := q3.2.2.2.1.2.1
  have k9 : mI N 4 0 9 = nI (xWn X) := q3.2.2.2.1.1
  obtain ⟨x0, x1, x2, x3, x4, x5, x6, z1, z2, z3, z4⟩ := q2.1
  rw [f_Explorer_takeLatest_l12, k11, if_pos ((nI_lei (by omega) (by omega)).mpr (by omega)), k9]
  have sh : ∀ i, i < xKn X → xKp (x_sh X (xKn X)) i = x_shut X i := fun i hi => ic_t hi
  obtain ⟨⟨p1, p2, p3, p4, p5, p6, p7, p8, p9⟩, ⟨r1, r2, r3⟩, h3, ⟨m1, m2, m3, m4, m5⟩, h5⟩ := q3
  unfold x_end
  by_cases w : xWn X = 0
  · rw [if_pos (show nI (xWn X) = 0 by rw [w]; rfl), if_pos w, if_pos w]
    refine ⟨N, rfl, q2, P, ka, wa, ⟨⟨p1, p2, p3, p4, p5, p6, p7, p8, p9⟩, ⟨r1, fun i hi => ?_, r3⟩, h3, ⟨m1, m2, m3, m4, m5⟩, h5⟩, ?_⟩
    · have := r2 i hi
      rw [sh i hi] at this
      exact this
    · unfold cRoom at hR ⊢
      rw [q4]
      exact hR
  · obtain ⟨W, hWd⟩ : ∃ W, xWn X = W + 1 := ⟨xWn X - 1, by omega⟩
    have p4' : xWn X ≤ wa := p4
    rw [if_neg (show ¬ nI (xWn X) = 0 from fun z => w (nI_inj (b := 0) (by omega) (by decide) z)), if_neg w, if_neg w, show xWn X - 1 = W by omega, hWd, nI_prd, st_eq]
    obtain ⟨A, hA⟩ : ∃ A, A = wI N 4 0 9 (nI W) := ⟨_, rfl⟩
    rw [← hA]
    have a9 : mI A 4 0 9 = nI W := by rw [hA, pI_same]
    have aR : mR A = mR N := by rw [hA, pR_I]
    have slot := p7 W (by omega)
    rw [if_pos (show W < wa by omega)] at slot
    rw [aR, x4, bd_some, a9, z2, gd_pos (ix_ok (by omega) (by decide)), nI_tn (by omega), slot, bd_some, p5, bd_some, st_eq, st_eq]
    obtain ⟨P2, hP2⟩ : ∃ P2, P2 = fup (fup P 0 (P (201 + W))) (201 + W) (P 0) := ⟨_, rfl⟩
    have t0 : P2 0 = P (201 + W) := by rw [hP2, fup_o (by omega), fup_s]
    have tW : P2 (201 + W) = P 0 := by rw [hP2, fup_s]
    have to : ∀ j, ¬ j = 0 → ¬ j = 201 + W → P2 j = P j := fun j a b => by rw [hP2, fup_o b, fup_o a]
    have qA : cQ Mz p n mk nm kb vb A := by rw [hA]; exact cQ_4 q2
    have sm : ∀ j, sme N (wR (wR A 17 1 W (some (P 0))) 4 0 8 (some (P (201 + W)))) j := fun j => by
      have : sme N A j := by rw [hA]; exact fq_s (fr_I (Or.inl rfl))
      exact this
    refine ⟨_, rfl, cQ_R (cQ_R qA (Or.inr (Or.inl rfl))) (Or.inl ⟨rfl, rfl⟩), P2, ka, wa, ⟨⟨p1, p2, p3, by show W ≤ wa; omega, ?_, ?_, ?_, ?_, ?_⟩, ⟨?_, ?_, ?_⟩, ?_, ⟨?_, ?_, ?_, ?_, ?_⟩, ?_⟩, ?_⟩
    · rw [pR_R, if_pos ⟨rfl, rfl, rfl⟩, t0]
    · intro i hi
      rw [pR_R, if_neg (fun z => absurd z.1 (by decide)), pR_R, if_neg (fun z => absurd z.2.1 (by decide)), aR, p6 i hi, to (i + 1) (by omega) (by omega)]
    · intro i hi
      rw [pR_R, if_neg (fun z => absurd z.1 (by decide)), pR_R]
      by_cases e : i = W
      · rw [if_pos ⟨rfl, rfl, e⟩, if_pos (by omega), e, tW]
      · rw [if_neg (fun z => e z.2.2), aR, p7 i hi, to (201 + i) (by omega) (by omega)]
    · intro j hj
      rw [pN_R, pN_R, hA, pN_I]
      by_cases e0 : j = 0
      · rw [e0, t0]; exact p8 _ (vd_w (by omega))
      · by_cases eW : j = 201 + W
        · rw [eW, tW]; exact p8 _ vd_0
        · rw [to j e0 eW]; exact p8 j hj
    · intro i j hi hj
      have vW : vd ka wa (201 + W) := vd_w (by omega)
      by_cases ei : i = 0
      · by_cases ej : j = 0
        · intro _; rw [ei, ej]
        · by_cases ej2 : j = 201 + W
          · rw [ei, ej2, t0, tW]; intro z; have := p9 _ _ vW vd_0 z; omega
          · rw [ei, t0, to j ej ej2]; intro z; exact absurd (p9 _ _ vW hj z).symm ej2
      · by_cases ei2 : i = 201 + W
        · by_cases ej : j = 0
          · rw [ei2, ej, t0, tW]; intro z; have := p9 _ _ vd_0 vW z; omega
          · by_cases ej2 : j = 201 + W
            · intro _; rw [ei2, ej2]
            · rw [ei2, tW, to j ej ej2]; intro z; exact absurd (p9 _ _ vd_0 hj z).symm ej
        · by_cases ej : j = 0
          · rw [ej, t0, to i ei ei2]; intro z; exact absurd (p9 _ _ hi vW z) ei2
          · by_cases ej2 : j = 201 + W
            · rw [ej2, tW, to i ei ei2]; intro z; exact absurd (p9 _ _ hi vd_0 z) ei
            · rw [to i ei ei2, to j ej ej2]; exact p9 i j hi hj
    · show wRow _ (P2 0) ((xWt X W).1, (xWt X W).2)
      rw [t0]
      exact wRow_s (sm _) (r3 W (show W < xWn X by omega))
    · intro i hi
      have hi2 : i < xKn X := hi
      have p3' : xKn X ≤ ka := p3
      show kRow _ (P2 (i + 1)) (x_shut X i)
      rw [to (i + 1) (by omega) (by omega)]
      have := r2 i hi
      rw [sh i hi] at this
      exact kRow_s (sm _) this
    · intro i hi
      have hi2 : i < W := hi
      show wRow _ (P2 (201 + i)) (xWt X i)
      rw [to (201 + i) (by omega) (by omega)]
      exact wRow_s (sm _) (r3 i (show i < xWn X by omega))
    · show mI A 7 0 7 = xIds X
      rw [hA, wI_j (by decide)]
      exact h3
    · exact a9
    · show mI A 4 0 11 = _
      rw [hA, pI_place (by decide)]; exact m2
    · show mI A 4 0 12 = _
      rw [hA, pI_place (by decide)]; exact m3
    · show mI A 4 0 13 = _
      rw [hA, pI_place (by decide)]; exact m4
    · show mI A 4 0 14 = _
      rw [hA, pI_place (by decide)]; exact m5
    · have : cFac n A (xFa X) := by rw [hA]; exact cFac_w (by omega) h5
      exact this
    · unfold cRoom at hR ⊢
      rw [pN_R, pN_R, hA, pN_I, q4]
      exact hR
end CN
