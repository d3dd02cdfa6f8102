/-! PURE: the class goes on from an instruction. -/
section CG
variable {Mz : me_M} {p : Nat → Int64} {n nm B : Nat} {sec mk : Nat → Prop} {kb vb : Int32 → Int32} {X : xT} {c : Int64} {M M0 M1 M2 N : me_M} {s t ka wa : Nat} {P : Nat → Nat}
theorem s_n0 {b : sT} : ¬ (if (some b).isSome = true then (1 : Int32) else 0) = 0 := show ¬ (1 : Int32) = 0 by decide
theorem cpart (hQ : cQ Mz p n mk nm kb vb M) (h : cE n M P ka wa X) (hR : cRoom M ka wa) (hO : x_ok n sec nm B X) {σ : sT} {g l g2 l2 : Option sT} (ht : tld M c σ g l) (hr : tr M M c) (hσ : ∀ i, i < 75 → sv M (P 0) i = σ i) (h8 : mI M 7 0 8 = (if g.isSome then 1 else 0)) (h9 : mI M 7 0 9 = (if l.isSome then 1 else 0)) (eg : eO g g2) (el : eO l l2) (htg : nI (xAt X) + 1 + d_off c = nI (d_tg c (xAt X))) (h10 : mI M 4 0 10 = 0) : ∃ M1 r, f_Explorer_part M 0 (nI (xAt X)) = some (M1, r) ∧ cQ Mz p n mk nm kb vb M1 ∧ cOut n M1 r (x_part (x_fac X (f_way (xFa X) (xAt X) (g2.isSome = true) (l2.isSome = true))) c g2 l2) := by
  obtain ⟨ha, hsec, hg, hK, hW, hWt, hVi, hMw, hKp⟩ := hO
  obtain ⟨x0, x1, x2, x3, x4, x5, x6, z1, z2, z3, z4⟩ := hQ.1
  rw [← eO_s eg, ← eO_s el]
  obtain ⟨N, d1, d2, d3⟩ := cparts (g := g.isSome) (l := l.isSome) hQ ha h.2.2.2.2
  have qN' : fq M N := fr_mono d2 (fun k j z => Or.inr (Or.inr (Or.inr (Or.inr (Or.inr (Or.inr (Or.inl z)))))))
  have e7 : mI N 7 0 = mI M 7 0 := d2.2.2.2.1 7 0 (by rintro ⟨z, _⟩; exact absurd z (by decide))
  have e4 : mI N 4 0 = mI M 4 0 := d2.2.2.2.1 4 0 (by rintro ⟨z, _⟩; exact absurd z (by decide))
  have qN : cQ Mz p n mk nm kb vb N := cQ_q hQ qN' (by rw [d2.2.2.2.1 2 0 (by rintro ⟨z, _⟩; exact absurd z (by decide))]) ⟨by rw [d2.2.2.2.1 13 3 (by rintro ⟨z, _⟩; exact absurd z (by decide))]; exact hQ.2.2.2.2.2.2.2.2.1.1, by rw [d2.2.2.2.1 13 4 (by rintro ⟨z, _⟩; exact absurd z (by decide))]; exact hQ.2.2.2.2.2.2.2.2.1.2⟩
  obtain ⟨F, hF⟩ : ∃ F, F = f_way (xFa X) (xAt X) (g.isSome = true) (l.isSome = true) := ⟨_, rfl⟩
  rw [← hF] at d3 ⊢
  have xN : cE n N P ka wa (x_fac X F) := cE_q (vi := xVi X) (mw := xMw X) (pa := xPa X) h qN' (by rw [e7]; exact h.2.2.1) (by rw [e4]) (by rw [e4]) ⟨by rw [e4]; exact h.2.2.2.1.2.2.1, by rw [e4]; exact h.2.2.2.1.2.2.2.1, by rw [e4]; exact h.2.2.2.1.2.2.2.2⟩ d3
  have tN : tr M N c := tr_fr hr d2 (by rintro ⟨z, _⟩; exact absurd z (by decide)) (by rintro ⟨z, _⟩; exact absurd z (by decide)) (fun j _ => by rintro ⟨z, _⟩; exact absurd z (by decide))
  have rN : cRoom N ka wa := cRoom_N hR d2.2.1
  have sN : ∀ i, i < 75 → sv N (P 0) i = σ i := fun i hi => ((fq_s qN').1 i hi).trans (hσ i hi)
  -- isThrough is written
  have A : ∀ v : Int32, cQ Mz p n mk nm kb vb (wI N 4 0 10 v) ∧ cE n (wI N 4 0 10 v) P ka wa (x_fac X F) ∧ tr M (wI N 4 0 10 v) c ∧ cRoom (wI N 4 0 10 v) ka wa ∧ (∀ i, i < 75 → sv (wI N 4 0 10 v) (P 0) i = σ i) := by
    intro v
    have f10 : fq N (wI N 4 0 10 v) := fr_I (Or.inl rfl)
    refine ⟨cQ_4 qN, ?_, tr_fr (Q := fun k j => k = 4) tN (fr_I rfl) (by decide) (by decide) (fun _ _ => by decide), cRoom_N rN rfl, fun i hi => ((fq_s f10).1 i hi).trans (sN i hi)⟩
    exact cE_q (vi := xVi X) (mw := xMw X) (pa := xPa X) xN f10 (by rw [wI_j (by decide)]; exact xN.2.2.1) (pI_place (by decide)) (pI_place (by decide)) ⟨by rw [pI_place (by decide)]; exact xN.2.2.2.1.2.2.1, by rw [pI_place (by decide)]; exact xN.2.2.2.1.2.2.2.1, by rw [pI_place (by decide)]; exact xN.2.2.2.1.2.2.2.2⟩ (cFac_w (by omega) d3)
  have f7 : ∀ v f, mI (wI N 4 0 10 v) 7 0 f = mI M 7 0 f := fun v f => by rw [wI_j (by decide), e7]
  unfold f_Explorer_part
  rw [x1, bd_some, x2, bd_some, h8, h9, d1, bd_some, d2.1, x2, bd_some, e7, h8, h9]
  unfold f_Explorer_part_b47 f_Explorer_part_b48 f_Code_target
  have lkN : ∀ v, mI (wI N 4 0 10 v) 2 0 8 = d_off c := fun v => (A v).2.2.1.2.2.2.2.2.2.1
  cases g with
  | none =>
    cases g2 with
    | some b => exact eg.elim
    | none =>
      cases l with
      | none =>
        cases l2 with
        | some b => exact el.elim
        | none =>
          obtain ⟨a1, a2, a3, a4, a5⟩ := A 1
          rw [if_pos (show (if (none : Option sT).isSome = true then (1 : Int32) else 0) = 0 from rfl), if_pos (show (if (none : Option sT).isSome = true then (1 : Int32) else 0) = 0 from rfl), st_eq, pR_I, d2.1, x2, bd_some, f7, h8, if_pos (show (if (none : Option sT).isSome = true then (1 : Int32) else 0) = 0 from rfl)]
          unfold f_Explorer_part_b89
          rw [if_neg (by rw [pI_same]; decide)]
          exact ⟨_, _, rfl, a1, Or.inr (Or.inr ⟨rfl, pI_same, x_fac X F, rfl, ⟨P, ka, wa, a2, a4⟩, hK, hW, fun i hi => (hKp i hi).2⟩)⟩
      | some b =>
        cases l2 with
        | none => exact el.elim
        | some b2 =>
          obtain ⟨a1, a2, a3, a4, a5⟩ := A 0
          rw [if_pos (show (if (none : Option sT).isSome = true then (1 : Int32) else 0) = 0 from rfl), if_neg (s_n0 (b := b)), st_eq, pR_I, d2.1, x2, bd_some, f7, h8, if_pos (show (if (none : Option sT).isSome = true then (1 : Int32) else 0) = 0 from rfl)]
          unfold f_Explorer_part_b89
          rw [if_pos pI_same, pR_I, d2.1, x2, bd_some, h.1.2.2.2.2.1, bd_some, f7, h9, if_neg (s_n0 (b := b))]
          obtain ⟨M1, w1, w2, w3, w4⟩ := ctell a1 a2 a4 ht a3 a5 (el : e75 b b2) (v := 0) (Or.inr ⟨rfl, rfl⟩) pI_same (x := xAt X) (at1 := xAt X + 1) ⟨fun z => by rw [f7, h9] at z; exact absurd z s_n0, fun _ => rfl⟩
          rw [w1]
          exact ⟨M1, 0, rfl, w2, Or.inr (Or.inl ⟨rfl, rfl, w3, w4⟩)⟩
  | some a =>
    cases g2 with
    | none => exact eg.elim
    | some a0 =>
      obtain ⟨a1, a2, a3, a4, a5⟩ := A 0
      rw [if_neg (s_n0 (b := a)), st_eq, pR_I, d2.1, x2, bd_some, f7, h8, if_neg (s_n0 (b := a)), f7, h9]
      cases l with
      | none =>
        cases l2 with
        | some b => exact el.elim
        | none =>
          rw [if_pos (show (if (none : Option sT).isSome = true then (1 : Int32) else 0) = 0 from rfl)]
          unfold f_Explorer_part_b89
          rw [if_pos pI_same, pR_I, d2.1, x2, bd_some, h.1.2.2.2.2.1, bd_some, f7, h9, if_pos (show (if (none : Option sT).isSome = true then (1 : Int32) else 0) = 0 from rfl)]
          obtain ⟨M1, w1, w2, w3, w4⟩ := ctell a1 a2 a4 ht a3 a5 (eg : e75 a a0) (v := 1) (Or.inl ⟨rfl, rfl⟩) pI_same (x := xAt X) (at1 := d_tg c (xAt X)) ⟨fun _ => htg, fun z => absurd (by rw [f7, h9]; rfl) z⟩
          rw [w1]
          exact ⟨M1, 0, rfl, w2, Or.inr (Or.inl ⟨rfl, rfl, w3, w4⟩)⟩
      | some b =>
        cases l2 with
        | none => exact el.elim
        | some b0 =>
          rw [if_neg (s_n0 (b := b)), x0, bd_some, b2_some, lkN, htg]
          show ∃ M1 r, _ ∧ cQ Mz p n mk nm kb vb M1 ∧ cOut n M1 r (if xWn X = 200 then (21, x_fac X F) else (0, x_mv (x_push (x_fac X F) a0 (d_tg c (xAt X))) b0 (xAt X + 1) (xIds X)))
          by_cases w : xWn X = 200
          · rw [if_pos w]
            have hb : f_Explorer_holdBack (wI N 4 0 10 0) 0 (nI (d_tg c (xAt X))) = some (wI N 4 0 10 0, 0) := by
              unfold f_Explorer_holdBack
              rw [a2.2.2.2.1.1, if_neg (show ¬ nI (xWn (x_fac X F)) < 200 by rw [show xWn (x_fac X F) = 200 from w]; decide)]
            rw [hb, b2_some, if_pos rfl]
            exact ⟨_, _, rfl, a1, Or.inl ⟨rfl, by decide, cE_fin a2 a4⟩⟩
          · rw [if_neg w]
            obtain ⟨M1, P1, wa1, w1, w2, w3, w4, w5, w6, w7, w8⟩ := cholds (t := d_tg c (xAt X)) a1 a2 a4 (by show xWn X < 200; omega) hMw ht a3 a5 (eg : e75 a a0) rfl
            rw [w1, b2_some, if_neg (by decide)]
            have m10 : mI M1 4 0 10 = 0 := by rw [w8]; exact pI_same
            have m9 : mI M1 7 0 9 = 1 := by rw [w6.1, h9]; rfl
            unfold f_Explorer_part_b89
            rw [if_pos m10, w2.1.2.2.1, bd_some, w3.1.2.2.2.2.1, bd_some, m9, if_neg (by decide)]
            obtain ⟨M2, v1, v2, v3, v4⟩ := ctell w2 w3 w4 ht w6 (by rw [w5]; exact w7) (el : e75 b b0) (v := 0) (Or.inr ⟨rfl, rfl⟩) m10 (x := xAt X) (at1 := xAt X + 1) ⟨fun z => by rw [m9] at z; exact absurd z (by decide), fun _ => rfl⟩
            rw [v1]
            exact ⟨M2, 0, rfl, v2, Or.inr (Or.inl ⟨rfl, rfl, v3, v4⟩)⟩
/-- an exact number or not -/
theorem creckon (hQ : cQ Mz p n mk nm kb vb M) (ha : s < n) {F : xF} (hF : cFac n M F) {y : Nat} {x : sC} (h6 : mR M 10 y 6 = some (nu y)) (hx : cv M y = x) : ∃ M1, f_Facts_reckon M 0 (nI s) y = some M1 ∧ fr (fun k j => (k = 13 ∧ j = 1) ∨ (k = 16 ∧ j = 2)) M M1 ∧ cFac n M1 (f_rck F s x) := by
  have n2 := hQ.2.2.2.2.2.2.1.2.1
  obtain ⟨y0, y1, y2, y3, y4, y5, y6, y7, y8, y9⟩ := hQ.2.2.2.2.2.2.2.1
  obtain ⟨b1', b2', b3', b4', b5', b6'⟩ := hF s ha
  have ek : mI M 10 y 0 = cK x := by rw [← hx]; rfl
  have ex : cK x = 1 → pg M (nu y) = cX x := by
    intro k1
    rw [← hx] at k1 ⊢
    exact (cv_n (Or.inl k1)).symm
  -- what may come of it
  have ok : ∀ (v : Int32) (z : Int64) (M1 : me_M), v = ic (cK x = 1 ∧ (cX x).2.1 = 0 ∧ (F.2.2.2.1 s = 0 ∨ F.2.2.2.1 s = 1 ∧ F.2.2.2.2 s = (cX x).1)) 1 2 → mI M1 13 1 s = v → (∀ q, ¬ q = s → mI M1 13 1 q = mI M 13 1 q ∧ mL M1 16 2 q = mL M 16 2 q) → (v = 1 → mL M1 16 2 s = (cX x).1) → fr (fun k j => (k = 13 ∧ j = 1) ∨ (k = 16 ∧ j = 2)) M M1 → cFac n M1 (f_rck F s x) := by
    intro v z M1 hv hm ho hz g q hq
    obtain ⟨c1, c2, c3, c4, c5, c6⟩ := hF q hq
    have o : ∀ k j, ¬ ((k = 13 ∧ j = 1) ∨ (k = 16 ∧ j = 2)) → mI M1 k j = mI M k j := fun k j hh => g.2.2.2.1 k j hh
    refine ⟨by rw [o 13 0 (by decide)]; exact c1, by rw [o 15 4 (by decide)]; exact c2, by rw [o 15 5 (by decide)]; exact c3, ?_, ?_, ?_⟩
    · show mI M1 13 1 q = fup F.2.2.2.1 s (ic (cK x = 1 ∧ (cX x).2.1 = 0 ∧ (F.2.2.2.1 s = 0 ∨ F.2.2.2.1 s = 1 ∧ F.2.2.2.2 s = (cX x).1)) 1 2) q
      rw [← hv]
      by_cases e : q = s
      · rw [e, fup_s]; exact hm
      · rw [fup_o e, (ho q e).1]; exact c4
    · show fup F.2.2.2.1 s (ic (cK x = 1 ∧ (cX x).2.1 = 0 ∧ (F.2.2.2.1 s = 0 ∨ F.2.2.2.1 s = 1 ∧ F.2.2.2.2 s = (cX x).1)) 1 2) q = 1 → mL M1 16 2 q = fup F.2.2.2.2 s (cX x).1 q
      rw [← hv]
      by_cases e : q = s
      · rw [e, fup_s, fup_s]; exact hz
      · rw [fup_o e, fup_o e, (ho q e).2]; exact c5
    · have key : ∀ w, w = fup F.2.2.2.1 s (ic (cK x = 1 ∧ (cX x).2.1 = 0 ∧ (F.2.2.2.1 s = 0 ∨ F.2.2.2.1 s = 1 ∧ F.2.2.2.2 s = (cX x).1)) 1 2) q → (w = 0 ∨ w = 1 ∨ w = 2) := by
        intro w hw
        by_cases e : q = s
        · rw [e, fup_s] at hw
          by_cases hh : (cK x = 1 ∧ (cX x).2.1 = 0 ∧ (F.2.2.2.1 s = 0 ∨ F.2.2.2.1 s = 1 ∧ F.2.2.2.2 s = (cX x).1))
          · rw [ic_t hh] at hw; exact Or.inr (Or.inl hw)
          · rw [ic_f hh] at hw; exact Or.inr (Or.inr hw)
        · rw [fup_o e] at hw; rw [hw]; exact c6
      exact key _ rfl
  have two : ¬ (cK x = 1 ∧ (cX x).2.1 = 0 ∧ (F.2.2.2.1 s = 0 ∨ F.2.2.2.1 s = 1 ∧ F.2.2.2.2 s = (cX x).1)) → ∃ M1, some (wI M 13 1 s 2) = some M1 ∧ fr (fun k j => (k = 13 ∧ j = 1) ∨ (k = 16 ∧ j = 2)) M M1 ∧ cFac n M1 (f_rck F s x) := by
    intro hh
    have g : fr (fun k j => (k = 13 ∧ j = 1) ∨ (k = 16 ∧ j = 2)) M (wI M 13 1 s 2) := fr_I (Or.inl ⟨rfl, rfl⟩)
    exact ⟨_, rfl, g, ok 2 0 _ (by rw [ic_f hh]) pI_same (fun q e => ⟨pI_place e, rfl⟩) (fun z => absurd z (by decide)) g⟩
  have b60n : ¬ (cK x = 1 ∧ (cX x).2.1 = 0) → ∃ M1, f_Facts_reckon_b60 0 (nI s) y M 0 = some M1 ∧ fr (fun k j => (k = 13 ∧ j = 1) ∨ (k = 16 ∧ j = 2)) M M1 ∧ cFac n M1 (f_rck F s x) := by
    intro hh
    unfold f_Facts_reckon_b60
    rw [if_pos rfl, y3, bd_some, y6, gd_pos (ix_ok (by omega) (by decide)), nI_tn (by omega), st_eq]
    exact two (fun z => hh ⟨z.1, z.2.1⟩)
  have b22 : ¬ (cK x = 1 ∧ (cX x).2.1 = 0) → ∃ M1, f_Facts_reckon_b22 0 (nI s) y M = some M1 ∧ fr (fun k j => (k = 13 ∧ j = 1) ∨ (k = 16 ∧ j = 2)) M M1 ∧ cFac n M1 (f_rck F s x) := by
    intro hh
    unfold f_Facts_reckon_b22 f_Facts_reckon_b23
    rw [y3, bd_some, y6, gd_pos (ix_ok (by omega) (by decide)), nI_tn (by omega), if_pos rfl]
    split
    · exact b60n hh
    · exact b60n hh
  unfold f_Facts_reckon
  rw [ek]
  by_cases k1 : cK x = 1
  · have e1 : mL M 11 (nu y) 1 = (cX x).2.1 := by rw [← ex k1]; rfl
    have e0 : mL M 11 (nu y) 0 = (cX x).1 := by rw [← ex k1]; rfl
    rw [if_pos k1, h6, bd_some]
    unfold f_Num_isExact0
    rw [e1]
    by_cases k2 : (cX x).2.1 = 0
    · rw [if_pos k2, b2_some, if_neg (by decide)]
      unfold f_Facts_reckon_b23
      rw [y3, bd_some, y6, gd_pos (ix_ok (by omega) (by decide)), nI_tn (by omega), b4']
      by_cases a0 : F.2.2.2.1 s = 0
      · rw [if_pos a0, if_neg (by decide), st_eq, y4, bd_some, h6, bd_some, y9, gd_pos (ix_t (by omega) (by decide)), pL_I, e0, st_eq]
        have g : fr (fun k j => (k = 13 ∧ j = 1) ∨ (k = 16 ∧ j = 2)) M (wL (wI M 13 1 s 1) 16 2 s (cX x).1) := by
          refine fr_trans (fr_I (Or.inl ⟨rfl, rfl⟩)) ⟨rfl, rfl, rfl, fun _ _ _ => rfl, fun k j hh => ?_⟩
          funext q
          rw [pL_L, if_neg (fun z => hh (Or.inr ⟨z.1, z.2.1⟩))]
        exact ⟨_, rfl, g, ok 1 0 _ (by rw [ic_t ⟨k1, k2, Or.inl a0⟩]) (by rw [pI_L, pI_same]) (fun q e => ⟨by rw [pI_L, pI_place e], by rw [pL_place e, pL_I]⟩) (fun _ => pL_same) g⟩
      · rw [if_neg a0]
        unfold f_Facts_reckon_b60
        rw [if_neg (by decide), h6, bd_some, y4, bd_some, y9, gd_pos (ix_ok (by omega) (by decide)), nI_tn (by omega), e0]
        by_cases v : (cX x).1 = mL M 16 2 s
        · rw [if_pos v]
          rcases b6' with z | z | z
          · exact absurd z a0
          · exact ⟨M, rfl, fr_refl, ok 1 0 M (by rw [ic_t ⟨k1, k2, Or.inr ⟨z, (b5' z).symm.trans v.symm⟩⟩]) (b4'.trans z) (fun _ _ => ⟨rfl, rfl⟩) (fun _ => v.symm) fr_refl⟩
          · refine ⟨M, rfl, fr_refl, ok 2 0 M (by
              rw [ic_f (fun w => by
                rcases w.2.2 with y | y
                · exact a0 y
                · rw [z] at y; exact absurd y.1 (by decide))]) (b4'.trans z) (fun _ _ => ⟨rfl, rfl⟩) (fun w => absurd w (by decide)) fr_refl⟩
        · rw [if_neg v, y3, bd_some, y6, gd_pos (ix_t (by omega) (by decide)), st_eq]
          exact two (fun w => by
            rcases w.2.2 with y | y
            · exact a0 y
            · exact v (y.2.symm.trans (b5' y.1).symm))
    · rw [if_neg k2, b2_some, if_pos rfl]
      exact b22 (fun z => k2 z.2)
  · rw [if_neg k1]
    exact b22 (fun z => k1 z.1)
end CG
