/-! PURE: the class meets what is kept. -/
def cZ (n : Nat) (M : me_M) (X : xT) : Prop := ∃ P ka wa, cE n M P ka wa X ∧ cRoom M ka wa
def cmP (Mz : me_M) (p : Nat → Int64) (n : Nat) (mk : Nat → Prop) (nm : Nat) (kb vb : Int32 → Int32) (X : xT) (M1 : me_M) (r : Int32) (o : Option Nat) : Prop := match o with
  | some i => i < xKn X ∧ cQ Mz p n mk nm kb vb M1 ∧ cZ n M1 X ∧ r = ic (xKp X i).2.2.1 19 0 ∧ mI M1 4 0 10 = ic (xKp X i).2.2.1 0 1
  | none => r = 0 ∧ cQ Mz p n mk nm kb vb M1 ∧ cZ n M1 (x_keep X) ∧ mI M1 4 0 10 = 0
section CM
variable {Mz : me_M} {p : Nat → Int64} {n nm B : Nat} {sec mk : Nat → Prop} {kb vb : Int32 → Int32} {X : xT} {c : Int64} {M M1 M2 N : me_M} {s t ka wa : Nat} {P : Nat → Nat}
theorem oc_none {α β : Type} {x : β} {f : α → β} : oc (none : Option α) x f = x := rfl
theorem oc_some {α β : Type} {a : α} {x : β} {f : α → β} : oc (some a) x f = f a := rfl
theorem cE_n (hs : ss M) (hc : cnt M) (g : nfr M M1) (hN : mN M1 9 = mN M 9 + 1) (h : cE n M P ka wa X) : cE n M1 P ka wa X := by
  have o : ∀ k j, ¬ kS k → mI M1 k j = mI M k j ∧ mL M1 k j = mL M k j ∧ mR M1 k j = mR M k j ∧ mZ M1 k j = mZ M k j := fun k j hk => g.1 k j (Or.inr hk)
  obtain ⟨⟨p1, p2, p3, p4, p5, p6, p7, p8, p9⟩, ⟨r1, r2, r3⟩, h3, h4, h5⟩ := h
  refine ⟨⟨p1, p2, p3, p4, ?_, ?_, ?_, fun j hj => ?_, p9⟩, ⟨wRow_s (nfr_s hs hc g (p8 _ vd_0).1) r1, fun i hi => kRow_s (nfr_s hs hc g (p8 _ (vd_k ?_)).1) (r2 i hi), fun i hi => wRow_s (nfr_s hs hc g (p8 _ (vd_w ?_)).1) (r3 i hi)⟩, ?_, ?_, ?_⟩
  · rw [(o 4 0 (by decide)).2.2.1]; exact p5
  · rw [(o 17 0 (by decide)).2.2.1]; exact p6
  · rw [(o 17 1 (by decide)).2.2.1]; exact p7
  · have := p8 j hj
    exact ⟨by omega, this.2⟩
  · omega
  · omega
  · rw [(o 7 0 (by decide)).1]; exact h3
  · unfold cNum at h4 ⊢
    rw [(o 4 0 (by decide)).1]
    exact h4
  · intro q hq
    rw [(o 13 0 (by decide)).1, (o 13 1 (by decide)).1, (o 15 4 (by decide)).1, (o 15 5 (by decide)).1, (o 16 2 (by decide)).2.1]
    exact h5 q hq
theorem cmeet_l (hQ : cQ Mz p n mk nm kb vb M) (h : cE n M P ka wa X) (hR : cRoom M ka wa) (hK : xKn X ≤ 200) (hW : xWn X ≤ 200) (ha : xAt X < n) (hka : ∀ i, i < xKn X → (xKp X i).2.1 < n) (h10 : mI M 4 0 10 = 0) : ∀ (m y fu : Nat) (N : me_M), y + m = xKn X → m < fu → pf7 M N → ∃ M1 r, f_Explorer_meetKept_l2 0 fu N (nI y) = some (M1, r) ∧ cmP Mz p n mk nm kb vb X M1 r (x_fst (x_isK X) m y) := by
  have n2 := hQ.2.2.2.2.2.2.1.2.1
  intro m
  induction m with
  | zero =>
    intro y fu N e hf gN
    obtain ⟨fu, rfl⟩ : ∃ f, fu = f + 1 := ⟨fu - 1, by omega⟩
    have qN := cQ_p hQ gN
    have xN := cE_p h gN
    have n10 : mI N 4 0 10 = 0 := (gN.2.1 10 (by decide)).trans h10
    have eN := gN.1.2.1
    have k11 : mI N 4 0 11 = nI (xKn X) := xN.2.2.2.1.2.1
    obtain ⟨x0, x1, x2, x3, x4, x5, x6, z1, z2, z3, z4⟩ := qN.1
    rw [f_Explorer_meetKept_l2, k11, if_pos ((nI_lei (by omega) (by omega)).mpr (by omega))]
    show ∃ M1 r, _ ∧ (r = 0 ∧ cQ Mz p n mk nm kb vb M1 ∧ cZ n M1 (x_keep X) ∧ mI M1 4 0 10 = 0)
    by_cases g : xKn X < 200
    · rw [if_neg (show ¬ (200 : Int32) ≤ nI (xKn X) from fun z => by have := (nI_lei (a := 200) (by decide) (by omega)).mp z; omega), x3, bd_some, z1, gd_pos (ix_ok (by omega) (by decide)), nI_tn (by omega)]
      have slot := xN.1.2.2.2.2.2.1 (xKn X) g
      have pka := xN.1.2.2.1
      rw [slot]
      by_cases lt : xKn X < ka
      · rw [if_pos lt, oc_some, bd_some]
        have v := vd_k (ka := ka) (wa := wa) lt
        have pp := xN.1.2.2.2.2.2.2.2.1 _ v
        obtain ⟨M1, w1, w2, w3, w4, w5⟩ := ckeep (s := P (xKn X + 1)) qN xN g hW (Or.inr ⟨lt, rfl⟩) pp.1 pp.2 (fun j hj hn z => hn (xN.1.2.2.2.2.2.2.2.2 j _ hj v z)) n10
        rw [w1]
        refine ⟨M1, 0, rfl, rfl, w2, ⟨_, _, _, w4, ?_⟩, w5⟩
        rw [if_pos lt]
        unfold cRoom at hR ⊢
        rw [w3, eN]
        exact hR
      · have eka : ka = xKn X := by omega
        rw [if_neg lt, oc_none]
        have lim : mN N 9 ≤ 401 := by rw [eN, hR.1]; have := h.1.2.1; omega
        have rm : me_cN (mN N) + 152 ≤ me_CL ∧ me_sN (mN N) + 1055 ≤ me_SL := by
          rw [eN] at lim ⊢
          have := hR.2.1
          have := hR.2.2
          omega
        obtain ⟨f9, A, a1, a2, a3, a4, a5, a6, a7, a8, a9⟩ := st_new qN.2.1 qN.2.2.1 rm
        rw [gd_pos f9, st_eq, a1, bd_some]
        have qA : cQ Mz p n mk nm kb vb A := cQ_n qN a7 a2 a3 a4 ⟨11, a5⟩
        have xA : cE n A P ka wa X := cE_n qN.2.1 qN.2.2.1 a7 a4 xN
        have nA10 : mI A 4 0 10 = 0 := by rw [(a7.1 4 0 (Or.inr (by decide))).1]; exact n10
        have big : 2 ≤ mN N 9 := by rw [eN, hR.1]; omega
        obtain ⟨M1, w1, w2, w3, w4, w5⟩ := ckeep (s := mN N 9) qA xA g hW (Or.inl eka) (by omega) (by omega) (fun j hj hn z => by have := (xN.1.2.2.2.2.2.2.2.1 j hj).1; omega) nA10
        rw [w1]
        refine ⟨M1, 0, rfl, rfl, w2, ⟨_, _, _, w4, ?_⟩, w5⟩
        rw [if_neg lt]
        unfold cRoom at hR ⊢
        rw [w3, a4, a8, a9, eN]
        rw [eN] at lim
        omega
    · rw [if_pos (show (200 : Int32) ≤ nI (xKn X) from (nI_lei (a := 200) (by decide) (by omega)).mpr (by omega))]
      refine ⟨N, 0, rfl, rfl, qN, ?_, n10⟩
      unfold x_keep
      rw [if_neg g]
      refine ⟨P, ka, wa, xN, ?_⟩
      unfold cRoom at hR ⊢
      rw [eN]
      exact hR
  | succ m ih =>
    intro y fu N e hf gN
    obtain ⟨fu, rfl⟩ : ∃ f, fu = f + 1 := ⟨fu - 1, by omega⟩
    have qN := cQ_p hQ gN
    have xN := cE_p h gN
    have eN := gN.1.2.1
    have k11 : mI N 4 0 11 = nI (xKn X) := xN.2.2.2.1.2.1
    obtain ⟨x0, x1, x2, x3, x4, x5, x6, z1, z2, z3, z4⟩ := qN.1
    have yk : y < xKn X := by omega
    have pka := xN.1.2.2.1
    have v := vd_k (ka := ka) (wa := wa) (show y < ka by omega)
    have pp := (xN.1.2.2.2.2.2.2.2.1 _ v).1
    have p0 := (xN.1.2.2.2.2.2.2.2.1 _ (vd_0 (ka := ka) (wa := wa))).1
    have slot := xN.1.2.2.2.2.2.1 y (by omega)
    rw [if_pos (show y < ka by omega)] at slot
    have r0 := xN.2.1.1
    have rk := xN.2.1.2.1 y yk
    have ky := hka y yk
    rw [f_Explorer_meetKept_l2, k11, if_neg (fun z => by have := (nI_lei (by omega) (by omega)).mp z; omega), x3, bd_some, z1, gd_pos (ix_ok (by omega) (by decide)), nI_tn (by omega), slot, bd_some, xN.1.2.2.2.2.1, bd_some, rk.2.1, r0.2, x_fst, nI_s]
    by_cases a : (xKp X y).2.1 = xAt X
    · rw [if_pos (show nI (xKp X y).2.1 = nI (xNow X, xAt X).2 by rw [a])]
      obtain ⟨u, hu⟩ := qN.2.2.2.2.2.2.2.2.2 _ pp
      obtain ⟨N1, q1, q2, q3, q4⟩ := cwithin qN.1 qN.2.1 pp p0 xN.1.2.2.2.2.1 hu qN.2.2.2.2.2.2.2.2.1
      have g1 : pf7 M N1 := pf7_trans gN q2
      rw [q1, b2_some, b1_c (in_e rk.1 r0.1)]
      by_cases w : s_in (xKp X y).1 (xNow X)
      · rw [if_neg (b1_n0 w), ic_t (show x_isK X y from ⟨a, w⟩)]
        have xN1 := cE_p h g1
        have qN1 := cQ_p hQ g1
        have slot1 := xN1.1.2.2.2.2.2.1 y (by omega)
        rw [if_pos (show y < ka by omega)] at slot1
        rw [qN1.1.2.2.2.1, bd_some, qN1.1.2.2.2.2.2.2.2.1, gd_pos (ix_t (by omega) (by decide)), slot1, bd_some, (xN1.2.1.2.1 y yk).2.2.1]
        have fin : ∀ v : Int32, cQ Mz p n mk nm kb vb (wI N1 4 0 10 v) ∧ cZ n (wI N1 4 0 10 v) X := by
          intro v
          have f10 : fq N1 (wI N1 4 0 10 v) := fr_I (Or.inl rfl)
          refine ⟨cQ_q qN1 f10 (wI_j (by decide)) ⟨by rw [wI_j (by decide)]; exact qN1.2.2.2.2.2.2.2.2.1.1, by rw [wI_j (by decide)]; exact qN1.2.2.2.2.2.2.2.2.1.2⟩, P, ka, wa, ?_, ?_⟩
          · exact cE_q xN1 f10 (by rw [wI_j (by decide)]; exact xN1.2.2.1) (pI_place (by decide)) (pI_place (by decide)) ⟨by rw [pI_place (by decide)]; exact xN1.2.2.2.1.2.2.1, by rw [pI_place (by decide)]; exact xN1.2.2.2.1.2.2.2.1, by rw [pI_place (by decide)]; exact xN1.2.2.2.1.2.2.2.2⟩ (by
              intro q hq
              rw [wI_j (by decide), wI_j (by decide), wI_j (by decide), wI_j (by decide), pL_I]
              exact xN1.2.2.2.2 q hq)
          · unfold cRoom at hR ⊢
            rw [pN_I, g1.1.2.1]
            exact hR
        by_cases o : (xKp X y).2.2.1
        · rw [if_neg (b1_n0 o), st_eq, if_pos pI_same]
          exact ⟨_, _, rfl, yk, (fin 0).1, (fin 0).2, (ic_t o).symm, by rw [ic_t o]; exact pI_same⟩
        · rw [if_pos (b1_f o), st_eq, if_neg (by rw [pI_same]; decide)]
          exact ⟨_, _, rfl, yk, (fin 1).1, (fin 1).2, (ic_f o).symm, by rw [ic_f o]; exact pI_same⟩
      · rw [if_pos (b1_f w), ic_f (fun z => w z.2)]
        exact ih (y + 1) fu N1 (by omega) (by omega) g1
    · rw [if_neg (show ¬ nI (xKp X y).2.1 = nI (xNow X, xAt X).2 from fun z => a (nI_inj (by omega) (show xAt X < 2147483648 by omega) z)), ic_f (fun z => a z.1)]
      exact ih (y + 1) fu N (by omega) (by omega) gN
theorem cmeet (hQ : cQ Mz p n mk nm kb vb M) (h : cZ n M X) (hK : xKn X ≤ 200) (hW : xWn X ≤ 200) (ha : xAt X < n) (hka : ∀ i, i < xKn X → (xKp X i).2.1 < n) (h10 : mI M 4 0 10 = 0) : ∃ M1 r, f_Explorer_meetKept M 0 = some (M1, r) ∧ cmP Mz p n mk nm kb vb X M1 r (x_hit X) := by
  obtain ⟨P, ka, wa, h1, h2⟩ := h
  unfold f_Explorer_meetKept
  exact cmeet_l hQ h1 h2 hK hW ha hka h10 (xKn X) 0 fuel M (by omega) (by unfold fuel; omega) pf7_refl
end CM
