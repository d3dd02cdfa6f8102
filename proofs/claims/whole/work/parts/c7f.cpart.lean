/-! PURE: the class goes the ways of a jump. -/
def cFin (n : Nat) (M : me_M) (X : xT) : Prop := ∃ P ka wa, cPool M P ka wa X ∧ cRoom M ka wa ∧ mI M 9 (P 0) 2 = nI (xAt X) ∧ cNum M X ∧ cFac n M (xFa X)
def cOut (n : Nat) (M1 : me_M) (r : Int32) (res : Int32 × xT) : Prop := (r = res.1 ∧ 0 < r ∧ cFin n M1 res.2) ∨ (r = 0 ∧ res.1 = 0 ∧ mI M1 4 0 10 = 0 ∧ cZ n M1 res.2) ∨ (r = 0 ∧ mI M1 4 0 10 = 1 ∧ ∃ Y, res = x_end Y ∧ cZ n M1 Y ∧ xKn Y ≤ 200 ∧ xWn Y ≤ 200 ∧ ∀ i, i < xKn Y → (xKp Y i).2.2.2 ≤ 200)
section CP
variable {Mz : me_M} {p : Nat → Int64} {n nm B : Nat} {sec mk : Nat → Prop} {kb vb : Int32 → Int32} {X : xT} {c : Int64} {M M0 M1 M2 N : me_M} {s t ka wa : Nat} {P : Nat → Nat}
theorem cE_fin (h : cE n M P ka wa X) (g : cRoom M ka wa) : cFin n M X := ⟨P, ka, wa, h.1, g, h.2.1.1.2, h.2.2.2.1, h.2.2.2.2⟩
theorem cRoom_N (h : cRoom M ka wa) (e : mN M1 = mN M) : cRoom M1 ka wa := by
  unfold cRoom at h ⊢
  rw [e]
  exact h
theorem cholds (hQ : cQ Mz p n mk nm kb vb M) (h : cE n M P ka wa X) (hR : cRoom M ka wa) (hW : xWn X < 200) (hMw : xMw X ≤ 200) {σ τ a : sT} {l : Option sT} (ht : tld M0 c σ (some τ) l) (hr : tr M0 M c) (hσ : ∀ i, i < 75 → sv M (P 0) i = σ i) (ha : e75 τ a) {x : Int32} {t : Nat} (hx : x = nI t) : ∃ M1 P1 wa1, f_Explorer_holdBack M 0 x = some (M1, 1) ∧ cQ Mz p n mk nm kb vb M1 ∧ cE n M1 P1 ka wa1 (x_push X a t) ∧ cRoom M1 ka wa1 ∧ P1 0 = P 0 ∧ tr M0 M1 c ∧ (∀ i, i < 75 → sv M1 (P 0) i = σ i) ∧ mI M1 4 0 10 = mI M 4 0 10 := by
  obtain ⟨x0, x1, x2, x3, x4, x5, x6, z1, z2, z3, z4⟩ := hQ.1
  unfold f_Explorer_holdBack
  rw [h.2.2.2.1.1, if_pos (show nI (xWn X) < 200 from (nI_lti (b := 200) (by omega) (by decide)).mpr hW), x4, bd_some, z2, gd_pos (ix_ok (by omega) (by decide)), nI_tn (by omega), h.1.2.2.2.2.2.2.1 _ hW]
  have pwa := h.1.2.2.2.1
  by_cases lt : xWn X < wa
  · rw [if_pos lt, oc_some, bd_some]
    have v := vd_w (ka := ka) lt
    have pp := h.1.2.2.2.2.2.2.2.1 _ v
    obtain ⟨M1, w1, w2, w3, w4, w5, w6, w7⟩ := chold (s := P (201 + xWn X)) hQ h hW hMw (Or.inr ⟨lt, rfl⟩) pp.1 pp.2 (fun j hj hn z => hn (h.1.2.2.2.2.2.2.2.2 j _ hj v z)) ht hr hσ ha hx
    rw [if_pos lt] at w4
    exact ⟨M1, _, _, w1, w2, w4, cRoom_N hR w3, by rw [fup_o (by omega)], w5, w6, w7⟩
  · have ewa : wa = xWn X := by omega
    rw [if_neg lt, oc_none]
    have lim : mN M 9 ≤ 401 := by rw [hR.1]; have := h.1.1; omega
    have rm : me_cN (mN M) + 152 ≤ me_CL ∧ me_sN (mN M) + 1055 ≤ me_SL := by
      have := hR.2.1
      have := hR.2.2
      omega
    obtain ⟨f9, A, a1, a2, a3, a4, a5, a6, a7, a8, a9⟩ := st_new hQ.2.1 hQ.2.2.1 rm
    rw [gd_pos f9, st_eq, a1, bd_some]
    have qA : cQ Mz p n mk nm kb vb A := cQ_n hQ a7 a2 a3 a4 ⟨11, a5⟩
    have xA : cE n A P ka wa X := cE_n hQ.2.1 hQ.2.2.1 a7 a4 h
    have big : 2 ≤ mN M 9 := by rw [hR.1]; omega
    have s0 : sme M A (P 0) := nfr_s hQ.2.1 hQ.2.2.1 a7 (h.1.2.2.2.2.2.2.2.1 _ vd_0).1
    obtain ⟨M1, w1, w2, w3, w4, w5, w6, w7⟩ := chold (s := mN M 9) qA xA hW hMw (Or.inl ewa) (by omega) (by omega) (fun j hj hn z => by have := (h.1.2.2.2.2.2.2.2.1 j hj).1; omega) ht (tr_n hr a7 hQ.2.2.1) (fun i hi => (s0.1 i hi).trans (hσ i hi)) ha hx
    rw [if_neg lt] at w4
    refine ⟨M1, _, _, w1, w2, w4, ?_, by rw [fup_o (by omega)], w5, w6, ?_⟩
    · unfold cRoom at hR ⊢
      rw [w3, a4, a8, a9]
      omega
    · rw [w7, (a7.1 4 0 (Or.inr (by decide))).1]
theorem or_b1 {Q : Prop} {b : Bool} : vp_nar .boolean (b1 Q ||| (if b = true then (1 : Int32) else 0)) = b1 (Q ∨ b = true) := by
  by_cases h : Q
  · rw [b1_t h, b1_t (Or.inl h)]
    cases b <;> decide
  · rw [b1_f h]
    cases b with
    | true => rw [b1_t (Or.inr rfl)]; decide
    | false => rw [b1_f (fun z => z.elim h (by decide))]; decide
theorem cparts (hQ : cQ Mz p n mk nm kb vb M) (ha : s < n) {F : xF} (hF : cFac n M F) {g l : Bool} : ∃ M1, f_Facts_part M 0 (nI s) (if g = true then 1 else 0) (if l = true then 1 else 0) = some M1 ∧ fr (fun k j => k = 15 ∧ (j = 4 ∨ j = 5)) M M1 ∧ cFac n M1 (f_way F s (g = true) (l = true)) := by
  have n2 := hQ.2.2.2.2.2.2.1.2.1
  obtain ⟨y0, y1, y2, y3, y4, y5, y6, y7, y8, y9⟩ := hQ.2.2.2.2.2.2.2.1
  obtain ⟨_, a2, a3, _⟩ := hF s ha
  unfold f_Facts_part
  rw [y1, bd_some, y7, gd_pos (ix_ok (by omega) (by decide)), nI_tn (by omega), a2, or_b1, st_eq, y2, bd_some, y8, gd_pos (ix_t (by omega) (by decide)), wI_j (by decide), a3, or_b1, st_eq]
  refine ⟨_, rfl, fr_trans (fr_I ⟨rfl, Or.inl rfl⟩) (fr_I ⟨rfl, Or.inr rfl⟩), ?_⟩
  intro q hq
  obtain ⟨b1', b2', b3', b4', b5'⟩ := hF q hq
  refine ⟨by rw [wI_j (by decide), wI_j (by decide)]; exact b1', ?_, ?_, by rw [wI_j (by decide), wI_j (by decide)]; exact b4', b5'⟩
  · show _ = b1 (fup F.2.1 s (F.2.1 s ∨ g = true) q)
    rw [wI_j (by decide)]
    by_cases e : q = s
    · rw [e, fup_s, pI_same]
    · rw [fup_o e, pI_place e]; exact b2'
  · show _ = b1 (fup F.2.2.1 s (F.2.2.1 s ∨ l = true) q)
    by_cases e : q = s
    · rw [e, fup_s, pI_same]
    · rw [fup_o e, pI_place e, wI_j (by decide)]; exact b3'
/-- the state now is told its way -/
theorem ctell (hQ : cQ Mz p n mk nm kb vb M) (h : cE n M P ka wa X) (hR : cRoom M ka wa) {σ τ a : sT} {g l : Option sT} (ht : tld M0 c σ g l) (hr : tr M0 M c) (hσ : ∀ i, i < 75 → sv M (P 0) i = σ i) (ha : e75 τ a) {v : Int32} (hv : (v = 1 ∧ g = some τ) ∨ (v = 0 ∧ l = some τ)) (h10 : mI M 4 0 10 = 0) {x at1 : Nat} (h9 : (mI M 7 0 9 = 0 → nI x + 1 + d_off c = nI at1) ∧ (¬ mI M 7 0 9 = 0 → x + 1 = at1)) : ∃ M1, f_Explorer_part_b119 0 (nI x) M v (P 0) 0 = some (M1, 0) ∧ cQ Mz p n mk nm kb vb M1 ∧ mI M1 4 0 10 = 0 ∧ cZ n M1 (x_mv X a at1 (xIds X)) := by
  obtain ⟨x0, x1, x2, x3, x4, x5, x6, z1, z2, z3, z4⟩ := hQ.1
  have t0 := (h.1.2.2.2.2.2.2.2.1 0 vd_0).1
  obtain ⟨N1, d1, d2, d3, d4⟩ := ht M (P 0) τ v hr.1 hr.2.1 hr.2.2.1 hr.2.2.2 hQ.2.1 t0 (hQ.2.2.2.2.2.2.2.2.2 _ t0) hσ hv
  have g1 : fr (sP (P 0)) M N1 := fr_sP d4
  have q1 : cQ Mz p n mk nm kb vb N1 := cQ_s hQ (sP_fs g1) d3 (by rw [g1.2.2.2.1 2 0 (sP_no (by decide))]) ⟨by rw [g1.2.2.2.1 13 3 (sP_no (by decide))]; exact hQ.2.2.2.2.2.2.2.2.1.1, by rw [g1.2.2.2.1 13 4 (sP_no (by decide))]; exact hQ.2.2.2.2.2.2.2.2.1.2⟩
  have e7 : mI N1 7 0 = mI M 7 0 := g1.2.2.2.1 7 0 (sP_no (by decide))
  have e4 : mI N1 4 0 = mI M 4 0 := g1.2.2.2.1 4 0 (sP_no (by decide))
  have e2 : mI N1 2 0 = mI M 2 0 := g1.2.2.2.1 2 0 (sP_no (by decide))
  unfold f_Explorer_part_b119 f_Code_target
  rw [d1, bd_some, g1.1, h.1.2.2.2.2.1, bd_some, x2, bd_some, e7]
  -- where it goes on
  have fin : ∃ M1, some (wI N1 9 (P 0) 2 (nI at1), (0 : Int32)) = some (M1, (0 : Int32)) ∧ cQ Mz p n mk nm kb vb M1 ∧ mI M1 4 0 10 = 0 ∧ cZ n M1 (x_mv X a at1 (xIds X)) := by
    have g2 : fs (P 0) M (wI N1 9 (P 0) 2 (nI at1)) := fs_trans (sP_fs g1) (sP_fs (fr_I (Or.inl ⟨rfl, rfl⟩)))
    have o4 : ∀ f, mI (wI N1 9 (P 0) 2 (nI at1)) 4 0 f = mI M 4 0 f := fun f => by rw [wI_j (fun z => absurd z.1 (by decide)), e4]
    refine ⟨_, rfl, cQ_9 q1 (by decide) (by rw [g1.2.1]; exact t0), by rw [o4]; exact h10, P, ka, wa, ?_, cRoom_N hR (by rw [pN_I, g1.2.1])⟩
    exact cE_s (vi := xVi X) (mw := xMw X) (pa := xPa X) h g2 ⟨fun i hi => (d2 i hi).trans (ha i hi), pI_same⟩ (by rw [wI_j (fun z => absurd z.1 (by decide)), e7]; exact h.2.2.1) (o4 9) (o4 11) ⟨by rw [o4]; exact h.2.2.2.1.2.2.1, by rw [o4]; exact h.2.2.2.1.2.2.2.1, by rw [o4]; exact h.2.2.2.1.2.2.2.2⟩ (cFac_w (by omega) (sF (t := P 0) (fr_mono g1 (fun k j z => Or.inl z)) h.2.2.2.2))
  by_cases w : mI M 7 0 9 = 0
  · have lkc : mI M 2 0 8 = d_off c := hr.2.2.2.2.2.2.1
    rw [if_pos w, x0, bd_some, b2_some, e2, lkc, h9.1 w, st_eq]
    exact fin
  · rw [if_neg w, nI_s, h9.2 w, st_eq]
    exact fin
end CP
