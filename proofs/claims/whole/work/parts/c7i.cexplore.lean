/-! PURE: the class explores: its turns. -/
section CI
variable {Mz : me_M} {p : Nat → Int64} {n nm B : Nat} {sec mk : Nat → Prop} {kb vb : Int32 → Int32} {X : xT} {c : Int64} {M M0 M1 M2 N : me_M} {s t ka wa : Nat} {P : Nat → Nat} {k16 : me_M → Int32 → Option (me_M × Int32)} {y2 : Int32}
theorem tP_fs (g : fr (tP s) M M1) : fs s M M1 := fr_mono g (fun k j z => by
  rcases z with z | z | z | z
  · exact Or.inl z
  · exact Or.inr (Or.inr (Or.inr (Or.inl z.1)))
  · exact Or.inr (Or.inr (Or.inr (Or.inr (Or.inl z))))
  · exact Or.inr (Or.inr (Or.inr (Or.inr (Or.inr (Or.inl z))))))
theorem tP_no {k j : Nat} (h : k = 12 ∨ k = 2 ∨ k = 15 ∨ k = 16 ∨ k = 13 ∨ k = 4) : ¬ tP s k j := by
  rintro (z | z | z | z)
  · exact sP_no (by omega) z
  · omega
  · omega
  · omega
theorem cstep (hQ : cQ Mz p n mk nm kb vb M) (h : cZ n M X) (hF : pF p n sec nm) (hO : x_ok n sec nm B X) (hkb : kbO nm kb vb) (hB : B ≤ 20000) (h10 : mI M 4 0 10 = 0) : ∃ M1, cQ Mz p n mk nm kb vb M1 ∧ cTurn n k16 y2 (f_Explorer_explore_b52 k16 0 (nI B) M y2 0) M1 (x_step p kb vb B X) := by
  obtain ⟨P, ka, wa, hE, hR⟩ := h
  have n2 := hF.1
  have ha := hO.1
  have hv : xVi X ≤ B := hO.2.2.2.2.2.2.1
  obtain ⟨x0, x1, x2, x3, x4, x5, x6, z1, z2, z3, z4⟩ := hQ.1
  unfold f_Explorer_explore_b52 x_step
  rw [if_pos rfl, if_pos h10, hE.2.2.2.1.2.2.1]
  by_cases g : B ≤ xVi X
  · rw [if_neg (show ¬ nI (xVi X) < nI B from fun z => by have := (nI_lti (by omega) (by omega)).mp z; omega), if_pos g]
    exact ⟨M, hQ, Or.inr (Or.inr ⟨show (0 : Int32) < 20 by decide, rfl, cE_fin hE hR⟩)⟩
  rw [if_pos ((nI_lti (by omega) (by omega)).mpr (by omega)), if_neg g, st_eq, nI_s, pR_I, x1, bd_some, hE.1.2.2.2.2.1, bd_some, wI_j (fun z => absurd z.1 (by decide)), hE.2.1.1.2]
  obtain ⟨y0, y1, y2', y3, y4, y5, y6, y7, y8, y9⟩ := hQ.2.2.2.2.2.2.2.1
  have hvis : f_Facts_visit (wI M 4 0 12 (nI (xVi X + 1))) 0 (nI (xAt X)) = some (wI (wI M 4 0 12 (nI (xVi X + 1))) 13 0 (xAt X) ((xFa X).1 (xAt X) + 1)) := by
    unfold f_Facts_visit
    rw [pR_I, y0, bd_some, pZ_I, y5, gd_pos (ix_ok (by omega) (by decide)), nI_tn (by omega), wI_j (by decide), (hE.2.2.2.2 _ ha).1, st_eq]
  rw [show f_Facts_visit (wI M 4 0 12 (nI (xVi X + 1))) 0 (nI (xNow X, xAt X).2) = _ from hvis, bd_some]
  obtain ⟨A, hA⟩ : ∃ A, A = wI (wI M 4 0 12 (nI (xVi X + 1))) 13 0 (xAt X) ((xFa X).1 (xAt X) + 1) := ⟨_, rfl⟩
  rw [← hA]
  have fA : fq M A := by rw [hA]; exact fr_trans (fr_I (Or.inl rfl)) (fr_I (Or.inr (Or.inr (Or.inr (Or.inr (Or.inr (Or.inl ⟨rfl, Or.inl rfl⟩)))))))
  have oA : ∀ k j f, ¬ (k = 4 ∧ f = 12) → ¬ (k = 13 ∧ j = 0) → mI A k j f = mI M k j f := fun k j f q1 q2 => by rw [hA, wI_j q2, pI_I, if_neg (fun z => q1 ⟨z.1, z.2.2⟩)]
  have a12 : mI A 4 0 12 = nI (xVi X + 1) := by rw [hA, wI_j (by decide), pI_same]
  have fcA : cFac n A (f_vis (xFa X) (xAt X)) := by
    intro q hq
    obtain ⟨b1', b2', b3', b4', b5'⟩ := hE.2.2.2.2 q hq
    refine ⟨?_, by rw [oA 15 4 _ (by omega) (by decide)]; exact b2', by rw [oA 15 5 _ (by omega) (by decide)]; exact b3', by rw [oA 13 1 _ (by omega) (by decide)]; exact b4', by rw [hA]; exact b5'⟩
    show mI A 13 0 q = fup (xFa X).1 (xAt X) ((xFa X).1 (xAt X) + 1) q
    rw [hA]
    by_cases e : q = xAt X
    · rw [e, fup_s, pI_same]
    · rw [fup_o e, pI_place e, wI_j (by decide)]; exact b1'
  have xA : cE n A P ka wa (x_vis X) := cE_q (vi := xVi X + 1) (mw := xMw X) (pa := xPa X) hE fA (by rw [oA 7 0 _ (by decide) (by decide)]; exact hE.2.2.1) (oA 4 0 9 (by decide) (by decide)) (oA 4 0 11 (by decide) (by decide)) ⟨a12, by rw [oA 4 0 13 (by decide) (by decide)]; exact hE.2.2.2.1.2.2.2.1, by rw [oA 4 0 14 (by decide) (by decide)]; exact hE.2.2.2.1.2.2.2.2⟩ fcA
  have qA : cQ Mz p n mk nm kb vb A := cQ_q hQ fA (oA 2 0 3 (by decide) (by decide)) ⟨by rw [oA 13 3 0 (by decide) (by decide)]; exact hQ.2.2.2.2.2.2.2.2.1.1, by rw [oA 13 4 0 (by decide) (by decide)]; exact hQ.2.2.2.2.2.2.2.2.1.2⟩
  have a10 : mI A 4 0 10 = 0 := by rw [oA 4 0 10 (by decide) (by decide)]; exact h10
  have rA : cRoom A ka wa := cRoom_N hR fA.2.1
  have hY := vis_ok hO (show xVi X < B by omega)
  obtain ⟨Y, hYd⟩ : ∃ Y, Y = x_vis X := ⟨_, rfl⟩
  have eat : xAt X = xAt Y := by rw [hYd]; rfl
  rw [← hYd] at xA hY ⊢
  rw [eat] at ha
  clear hvis fcA a12 oA fA hE hR hO h10 hQ
  -- the instruction is looked at
  obtain ⟨x0, x1, x2, x3, x4, x5, x6, z1, z2, z3, z4⟩ := qA.1
  obtain ⟨c1, c2, c3, c4, c5, c6, c7, c8⟩ := qA.2.2.2.2.2.2.1
  rw [x0, bd_some, xA.1.2.2.2.2.1, bd_some, xA.2.1.1.2]
  obtain ⟨Lk, k1, k2, k3, k4, k5⟩ := lk_look c3 c4 c1 c2 ha
  rw [show f_Code_look A 0 (nI (xNow Y, xAt Y).2) = some Lk from k1, bd_some]
  rw [c7 _ ha] at k2
  obtain ⟨c, hc⟩ : ∃ c, p (xAt Y) = c := ⟨_, rfl⟩
  rw [hc] at k2
  have fL : fq A Lk := fr_mono k5 (fun k j z => Or.inr (Or.inl z))
  have oL : ∀ k j, ¬ k = 2 → mI Lk k j = mI A k j := fun k j hk => k5.2.2.2.1 k j (fun z => hk z.1)
  have qL : cQ Mz p n mk nm kb vb Lk := cQ_q qA fL k3 ⟨by rw [oL 13 3 (by decide)]; exact qA.2.2.2.2.2.2.2.2.1.1, by rw [oL 13 4 (by decide)]; exact qA.2.2.2.2.2.2.2.2.1.2⟩
  have fcL : cFac n Lk (xFa Y) := by
    intro q hq
    rw [oL 13 0 (by decide), oL 13 1 (by decide), oL 15 4 (by decide), oL 15 5 (by decide), k5.2.2.2.2 16 2 (fun z => absurd z.1 (by decide))]
    exact xA.2.2.2.2 q hq
  have xL : cE n Lk P ka wa Y := cE_q (vi := xVi Y) (mw := xMw Y) (pa := xPa Y) (d := xIds Y) xA fL (by rw [oL 7 0 (by decide)]; exact xA.2.2.1) (by rw [oL 4 0 (by decide)]) (by rw [oL 4 0 (by decide)]) ⟨by rw [oL 4 0 (by decide)]; exact xA.2.2.2.1.2.2.1, by rw [oL 4 0 (by decide)]; exact xA.2.2.2.1.2.2.2.1, by rw [oL 4 0 (by decide)]; exact xA.2.2.2.1.2.2.2.2⟩ fcL
  have l10 : mI Lk 4 0 10 = 0 := by rw [oL 4 0 (by decide)]; exact a10
  have rL : cRoom Lk ka wa := cRoom_N rA fL.2.1
  obtain ⟨w0, w1, w2, w3, w4, w5, w6⟩ := hF.2.2.2 (xAt Y) ha hY.2.1
  rw [hc] at w0 w1 w2 w3 w4 w5 w6
  obtain ⟨s0, s1, s2, s3, s4, s5, s6, s7, s8⟩ := qL.2.2.2.2.1
  have p0L := xL.1.2.2.2.2.1
  have t0 := (xL.1.2.2.2.2.2.2.2.1 0 vd_0).1
  obtain ⟨u, hu⟩ := qL.2.2.2.2.2.2.2.2.2 _ t0
  have e0 : e75 (sv Lk (P 0)) (xNow Y) := xL.2.1.1.1
  have wf : s_wf nm (sv Lk (P 0)) := wf_e (e75_symm e0) (gd_wf hY.2.2.1)
  obtain ⟨d1, d2, d3, d4, d5, d6, d7, d8⟩ := qL.2.2.2.2.2.2.1
  obtain ⟨T, r, q1, q2, q3, q4, q5⟩ := st_take (M := Lk) (s := P 0) (c := c) (nm := nm) (kb := kb) (vb := vb) ⟨k2, qL.2.1, qL.2.2.2.1, s0, s1, s2, s3, s4, s5, s6, s7, s8, w1, w2⟩ t0 hu qL.2.2.2.2.2.1.1 wf hkb xL.2.1.1.2 d1 (fun z => by have := (w3 z).1; show xAt Y + 1 < n; omega) d2 d3 d4 w0
  rw [qL.1.2.2.1, bd_some, p0L, bd_some, q1, b2_some]
  have ids : mI Lk 7 0 7 = xIds Y := xL.2.2.1
  -- behind the step
  have qS : cQ Mz p n mk nm kb vb (stw Lk (P 0)) := cQ_R (cQ_R qL (Or.inr (Or.inr ⟨rfl, Or.inr rfl⟩))) (Or.inr (Or.inr ⟨rfl, Or.inl rfl⟩))
  have xS : cE n (stw Lk (P 0)) P ka wa Y := cE_R7 (cE_R7 xL)
  have fT : fs (P 0) (stw Lk (P 0)) T := tP_fs q2.1
  have oT : ∀ k j, (k = 2 ∨ k = 13 ∨ k = 15 ∨ k = 4) → mI T k j = mI Lk k j := fun k j hk => q2.1.2.2.2.1 k j (tP_no (by omega))
  have qT : cQ Mz p n mk nm kb vb T := cQ_s qS fT q2.2.1 (by rw [oT 2 0 (by decide)]; rfl) ⟨by rw [oT 13 3 (by decide)]; exact qL.2.2.2.2.2.2.2.2.1.1, by rw [oT 13 4 (by decide)]; exact qL.2.2.2.2.2.2.2.2.1.2⟩
  have fcT : cFac n T (xFa Y) := by
    intro q hq
    rw [oT 13 0 (by decide), oT 13 1 (by decide), oT 15 4 (by decide), oT 15 5 (by decide), q2.1.2.2.2.2 16 2 (tP_no (by decide))]
    exact fcL q hq
  have rT : cRoom T ka wa := cRoom_N rL q2.1.2.1
  have at9 : mI T 9 (P 0) 2 = nI (xAt Y) := by rw [q2.2.2.1]; exact xL.2.1.1.2
  have xT : ∀ (σ : sT) (d : Int32), (∀ i, i < 75 → sv T (P 0) i = σ i) → mI T 7 0 7 = d → cE n T P ka wa (x_mv Y σ (xAt Y) d) := by
    intro σ d hσ hd
    exact cE_s (vi := xVi Y) (mw := xMw Y) (pa := xPa Y) xS fT ⟨hσ, at9⟩ hd (by rw [oT 4 0 (by decide)]; rfl) (by rw [oT 4 0 (by decide)]; rfl) ⟨by rw [oT 4 0 (by decide)]; exact xL.2.2.2.1.2.2.1, by rw [oT 4 0 (by decide)]; exact xL.2.2.2.1.2.2.2.1, by rw [oT 4 0 (by decide)]; exact xL.2.2.2.1.2.2.2.2⟩ fcT
  have finT : cFin n T Y := by
    have := xT (fun i => sv T (P 0) i) (mI T 7 0 7) (fun _ _ => rfl) rfl
    exact cE_fin (X := x_mv Y (fun i => sv T (P 0) i) (xAt Y) (mI T 7 0 7)) this rT
  have t10 : mI T 4 0 10 = 0 := by rw [oT 4 0 (by decide)]; exact l10
  have lkT : lk T 0 c := by unfold lk at k2 ⊢; rw [oT 2 0 (by decide)]; exact k2
  have p0T : mR T 4 0 8 = some (P 0) := by
    rw [q2.1.1]
    exact xS.1.2.2.2.2.1
  unfold x_do
  rw [hc]
  unfold f_Explorer_explore_b144
  by_cases un : s_unr c (xNow Y)
  · have un2 := (unr_e e0 w1 w2).mpr un
    rw [if_neg (show ¬ r = 0 by rw [q3 un2]; decide), ic_t un]
    exact cafter qT (Or.inl ⟨q3 un2, by rw [q3 un2]; decide, finT⟩)
  have un2 : ¬ s_unr c (sv Lk (P 0)) := fun z => un ((unr_e e0 w1 w2).mp z)
  rw [ic_f un]
  by_cases f8 : d_fam c = 8
  · rw [if_pos f8]
    obtain ⟨sv8, rl8⟩ := q5 un2 f8
    have ee := rel_e (c := c) e0 w1 w2
    have eP1 := rel_eP (c := c) (σ := sv Lk (P 0))
    cases o : s_rel c (sv Lk (P 0)) with
    | error f =>
      rw [o] at rl8 eP1 ee
      have er : r = f := rl8
      cases o2 : s_rel c (xNow Y) with
      | ok q => rw [o2] at ee; exact ee.elim
      | error f2 =>
        rw [o2] at ee
        have ef : f = f2 := ee
        rw [if_neg (show ¬ r = 0 by rw [er]; exact pos_n0 eP1)]
        exact cafter qT (Or.inl ⟨er.trans ef, by rw [er]; exact eP1, finT⟩)
    | ok q =>
      rw [o] at rl8 ee
      obtain ⟨g, l⟩ := q
      cases o2 : s_rel c (xNow Y) with
      | error f => rw [o2] at ee; exact ee.elim
      | ok qq =>
        rw [o2] at ee
        obtain ⟨g2, l2⟩ := qq
        obtain ⟨r0, r8, r9, r7, td⟩ := rl8
        have xT8 := xT (sv Lk (P 0)) (xIds Y) sv8 (r7.trans ids)
        have xT9 : cE n T P ka wa Y := ⟨xT8.1, ⟨⟨e75_trans xT8.2.1.1.1 e0, xT8.2.1.1.2⟩, xT8.2.1.2⟩, xT8.2.2⟩
        have trT : tr T T c := ⟨rfl, by
          obtain ⟨h4a, h4b⟩ := stw_stp (M := Lk) (s := P 0) (c := c) ⟨k2, qL.2.1, qL.2.2.2.1, s0, s1, s2, s3, s4, s5, s6, s7, s8, w1, w2⟩ t0
          unfold st4 at h4b ⊢
          rw [q2.1.1]
          exact h4b, fun _ _ _ => rfl, lkT⟩
        rw [r0, if_pos rfl, p0T, bd_some, at9]
        have fam : mI T 2 0 10 = d_fam c := lkT.2.2.2.2.2.1
        have hgo : f_Explorer_goOn T 0 (nI (xAt Y)) = b2 (f_Explorer_part T 0 (nI (xAt Y))) (fun a b => some (a, b)) := by
          unfold f_Explorer_goOn
          rw [qT.1.1, bd_some, fam, if_neg (by rw [f8]; decide), if_neg (by rw [f8]; decide), if_pos f8]
        obtain ⟨M1, r1, v1, v2, v3⟩ := cpart qT xT9 rT hY td trT sv8 r8 r9 ee.1 ee.2 (w4 (Or.inr f8)).2.2 t10
        rw [hgo, v1, b2_some, b2_some]
        exact cafter v2 v3
  · rw [if_neg f8]
    have rs8 := q4 un2 f8
    have ee := do_e (nm := nm) (c := c) (w := p (xAt Y + 1)) (kb := kb) (vb := vb) (ids := xIds Y) e0 wf w1 w2
    have eP1 := do_eP (c := c) (w := p (xAt Y + 1)) (kb := kb) (vb := vb) (σ := xNow Y) (d := xIds Y)
    have ew : d_fam c = 1 → mL Lk 16 0 (xAt Y + 1) = p (xAt Y + 1) := fun z => d7 _ (by have := (w3 z).1; omega)
    have es : s_do c (mL Lk 16 0 ((xNow Y, xAt Y).2 + 1)) kb vb (sv Lk (P 0)) (mI Lk 7 0 7) = s_do c (p (xAt Y + 1)) kb vb (sv Lk (P 0)) (xIds Y) := by
      rw [ids]
      by_cases f1 : d_fam c = 1
      · rw [show mL Lk 16 0 ((xNow Y, xAt Y).2 + 1) = p (xAt Y + 1) from ew f1]
      · unfold s_do
        rw [if_neg f1, if_neg f1]
    rw [es] at rs8
    cases o : s_do c (p (xAt Y + 1)) kb vb (sv Lk (P 0)) (xIds Y) with
    | error f =>
      rw [o] at rs8 ee
      have er : r = f := rs8
      cases o2 : s_do c (p (xAt Y + 1)) kb vb (xNow Y) (xIds Y) with
      | ok q => rw [o2] at ee; exact ee.elim
      | error f2 =>
        rw [o2] at ee eP1
        have ef : f = f2 := ee
        rw [if_neg (show ¬ r = 0 by rw [er, ef]; exact pos_n0 eP1)]
        exact cafter qT (Or.inl ⟨er.trans ef, by rw [er, ef]; exact eP1, finT⟩)
    | ok q =>
      rw [o] at rs8 ee
      cases o2 : s_do c (p (xAt Y + 1)) kb vb (xNow Y) (xIds Y) with
      | error f => rw [o2] at ee; exact ee.elim
      | ok qq =>
        rw [o2] at ee
        obtain ⟨r0, rows, di⟩ := rs8
        have xT8 := xT q.1 q.2 rows di
        have xT9 : cE n T P ka wa (x_mv Y qq.1 (xAt Y) qq.2) := ⟨xT8.1, ⟨⟨e75_trans xT8.2.1.1.1 ee.1, xT8.2.1.1.2⟩, xT8.2.1.2⟩, xT8.2.2.1.trans ee.2, xT8.2.2.2⟩
        rw [r0, if_pos rfl, p0T, bd_some, at9]
        obtain ⟨M1, v1, v2, v3⟩ := cgo qT xT9 rT hY lkT f8 w1 (fun z => (w4 (Or.inl z)).2.2) t10
        rw [v1, b2_some]
        exact cafter v2 v3
theorem cturn (hQ : cQ Mz p n mk nm kb vb M) (h : cZ n M X) (hF : pF p n sec nm) (hO : x_ok n sec nm B X) (hkb : kbO nm kb vb) (hB : B ≤ 20000) : ∃ M1, cQ Mz p n mk nm kb vb M1 ∧ cTurn n k16 y2 (st (wI M 4 0 10 0) (fun (M34 : me_M) => bd (mR M34 4 0 0) (fun (j35 : Nat) => bd (mR M34 4 0 8) (fun (j37 : Nat) => b2 (f_Code_isMarkAt M34 j35 (mI M34 9 j37 2)) (fun (M39 : me_M) (r40 : Int32) => (if r40 = 0 then f_Explorer_explore_b52 k16 0 (nI B) M39 y2 (0 : Int32) else b2 (f_Explorer_meetKept M39 0) (fun (M42 : me_M) (r43 : Int32) => f_Explorer_explore_b52 k16 0 (nI B) M42 y2 r43))))))) M1 (x_turn p mk kb vb B X) := by
  obtain ⟨P, ka, wa, hE, hR⟩ := h
  have n2 := hF.1
  have ha := hO.1
  rw [st_eq]
  obtain ⟨A, hA⟩ : ∃ A, A = wI M 4 0 10 0 := ⟨_, rfl⟩
  rw [← hA]
  have qA : cQ Mz p n mk nm kb vb A := by rw [hA]; exact cQ_4 hQ
  have xA : cE n A P ka wa X := by rw [hA]; exact cE_4 hE
  have rA : cRoom A ka wa := by rw [hA]; exact cRoom_N hR rfl
  have a10 : mI A 4 0 10 = 0 := by rw [hA, pI_same]
  obtain ⟨c1, c2, c3, c4, c5, c6, c7, c8⟩ := qA.2.2.2.2.2.2.1
  rw [qA.1.1, bd_some, xA.1.2.2.2.2.1, bd_some, xA.2.1.1.2]
  have hm : f_Code_isMarkAt A 0 (nI (xNow X, xAt X).2) = some (A, b1 (mk (xAt X))) := by
    show f_Code_isMarkAt A 0 (nI (xAt X)) = _
    unfold f_Code_isMarkAt
    rw [if_neg (nI_ps (by omega)), c1, if_neg (fun z => by have := (nI_lei (by omega) (by omega)).mp z; omega), c5, bd_some, c6, gd_pos (ix_ok (by omega) (by decide)), nI_tn (by omega), c8 _ ha]
    by_cases m : mk (xAt X)
    · rw [if_neg (b1_n0 m), b1_t m]
    · rw [if_pos (b1_f m), b1_f m]
  rw [hm, b2_some]
  unfold x_turn
  by_cases m : mk (xAt X)
  · rw [if_neg (b1_n0 m), ic_t m]
    obtain ⟨N, r, q1, q2⟩ := cmeet qA ⟨P, ka, wa, xA, rA⟩ hO.2.2.2.1 hO.2.2.2.2.1 ha (fun i hi => (hO.2.2.2.2.2.2.2.2 i hi).1) a10
    rw [q1, b2_some]
    cases o : x_hit X with
    | none =>
      rw [o] at q2
      obtain ⟨r0, v1, v2, v3⟩ := q2
      rw [r0]
      exact cstep v1 v2 hF (keep_ok hO).1 hkb hB v3
    | some i =>
      rw [o] at q2
      obtain ⟨i1, v1, v2, v3, v4⟩ := q2
      show ∃ M1, cQ Mz p n mk nm kb vb M1 ∧ cTurn n k16 y2 (f_Explorer_explore_b52 k16 0 (nI B) N y2 r) M1 (ic (xKp X i).2.2.1 (19, X) (x_end X))
      unfold f_Explorer_explore_b52
      by_cases w : (xKp X i).2.2.1
      · rw [ic_t w] at v3 v4
        rw [ic_t w, v3, if_neg (by decide)]
        obtain ⟨P1, k1, k2, e1, e2⟩ := v2
        exact cafter v1 (Or.inl ⟨rfl, by decide, cE_fin e1 e2⟩)
      · rw [ic_f w] at v3 v4
        rw [ic_f w, v3, if_pos rfl, v4, if_neg (by decide)]
        exact cafter v1 (Or.inr (Or.inr ⟨rfl, v4, X, rfl, v2, hO.2.2.2.1, hO.2.2.2.2.1, fun i hi => (hO.2.2.2.2.2.2.2.2 i hi).2⟩))
  · rw [if_pos (b1_f m), ic_f m]
    exact cstep qA ⟨P, ka, wa, xA, rA⟩ hF hO hkb hB a10
theorem cloop (hF : pF p n sec nm) (hkb : kbO nm kb vb) (hB : B ≤ 20000) : ∀ (m : Nat) (X : xT) (M : me_M) (fu y : Nat), x_left B X ≤ m → m < fu → y + m ≤ 1000000 → cQ Mz p n mk nm kb vb M → cZ n M X → x_ok n sec nm B X → ∃ M1, f_Explorer_explore_l16 0 (nI B) fu M (nI y) = some (M1, if (x_run p mk kb vb B m X).1 = -1 then 0 else (x_run p mk kb vb B m X).1) ∧ cQ Mz p n mk nm kb vb M1 ∧ cFin n M1 (x_run p mk kb vb B m X).2 := by
  intro m
  induction m with
  | zero => intro X M fu y h; unfold x_left at h; omega
  | succ m ih =>
    intro X M fu y hl hf hy hQ hX hO
    obtain ⟨fu, rfl⟩ : ∃ f, fu = f + 1 := ⟨fu - 1, by omega⟩
    rw [f_Explorer_explore_l16, x_run, if_neg (show ¬ (1000000 : Int32) ≤ nI y from fun z => by have := (nI_lei (a := 1000000) (by decide) (by omega)).mp z; omega)]
    obtain ⟨M1, w1, w2⟩ := cturn (k16 := f_Explorer_explore_l16 0 (nI B) fu) (y2 := nI y) hQ hX hF hO hkb hB
    have tg := turn_good (mk := mk) (kb := kb) (vb := vb) hF hO
    rcases w2 with ⟨e1, e2, e3⟩ | ⟨e1, e2, e3⟩ | ⟨e1, e2, e3⟩
    · obtain ⟨t1, t2⟩ := tg e1
      rw [e2, if_pos e1, nI_s]
      exact ih _ M1 fu (y + 1) (by omega) (by omega) (by omega) w1 e3 t1
    · have ne : ¬ (x_turn p mk kb vb B X).1 = 0 := by rw [e1]; decide
      rw [e2, if_neg ne, if_pos e1]
      exact ⟨M1, rfl, w1, e3⟩
    · have ne : ¬ (x_turn p mk kb vb B X).1 = 0 := pos_n0 e1
      have ne2 : ¬ (x_turn p mk kb vb B X).1 = -1 := fun z => by rw [z] at e1; exact absurd e1 (by decide)
      rw [e2, if_neg ne, if_neg ne2]
      exact ⟨M1, rfl, w1, e3⟩
/-- the pool, whatever is in it -/
def cPols (M : me_M) : Prop := ∃ P ka wa, cPool M P ka wa x_0 ∧ cRoom M ka wa
theorem cFin_pl (h : cFin n M X) : cPols M := by
  obtain ⟨P, ka, wa, ⟨p1, p2, p3, p4, p5⟩, h2, _⟩ := h
  exact ⟨P, ka, wa, ⟨p1, p2, Nat.zero_le _, Nat.zero_le _, p5⟩, h2⟩
theorem cexplore (hF : pF p n sec nm) (hkb : kbO nm kb vb) (hB : B ≤ 20000) (hQ : cQ Mz p n mk nm kb vb M) (hP : cPols M) (h0 : mI M 4 0 9 = 0 ∧ mI M 4 0 11 = 0 ∧ mI M 4 0 12 = 0 ∧ mI M 4 0 13 = 0 ∧ mI M 4 0 14 = 0) (hf : cFac n M (xFa x_0)) : ∃ M1, f_Explorer_explore M 0 (nI B) = some (M1, if (x_all p mk kb vb B).1 = -1 then 0 else (x_all p mk kb vb B).1) ∧ cQ Mz p n mk nm kb vb M1 ∧ cFin n M1 (x_all p mk kb vb B).2 := by
  obtain ⟨P, ka, wa, hp, hR⟩ := hP
  unfold f_Explorer_explore f_Steps_begin
  rw [hQ.1.2.2.1, bd_some, st_eq, bd_some]
  obtain ⟨A, hA⟩ : ∃ A, A = wI M 7 0 7 0 := ⟨_, rfl⟩
  rw [← hA]
  have fA : fq M A := by rw [hA]; exact fr_I (Or.inr (Or.inr (Or.inl rfl)))
  have qA : cQ Mz p n mk nm kb vb A := cQ_q hQ fA (by rw [hA, wI_j (by decide)]) ⟨by rw [hA, wI_j (by decide)]; exact hQ.2.2.2.2.2.2.2.2.1.1, by rw [hA, wI_j (by decide)]; exact hQ.2.2.2.2.2.2.2.2.1.2⟩
  obtain ⟨p1, p2, p3, p4, p5, p6, p7, p8, p9⟩ := hp
  have t0 : P 0 < mN A 9 := by rw [fA.2.1]; exact (p8 0 vd_0).1
  obtain ⟨u, hu⟩ := qA.2.2.2.2.2.2.2.2.2 _ t0
  obtain ⟨N, q1, q2, q3, q4, q5, q6, q7⟩ := st_first qA.2.1 t0 hu
  rw [fA.1, p5, bd_some, q1, bd_some]
  have g : fs (P 0) A N := sP_fs q7
  have o : ∀ k j, (k = 2 ∨ k = 13 ∨ k = 15 ∨ k = 4 ∨ k = 7) → mI N k j = mI A k j := fun k j hk => q7.2.2.2.1 k j (sP_no (by omega))
  have qN : cQ Mz p n mk nm kb vb N := cQ_s qA g ⟨11, q3⟩ (by rw [o 2 0 (by decide)]) ⟨by rw [o 13 3 (by decide)]; exact qA.2.2.2.2.2.2.2.2.1.1, by rw [o 13 4 (by decide)]; exact qA.2.2.2.2.2.2.2.2.1.2⟩
  have a4 : ∀ f, mI N 4 0 f = mI M 4 0 f := fun f => by rw [o 4 0 (by decide), hA, wI_j (by decide)]
  have xN : cZ n N x_0 := by
    refine ⟨P, ka, wa, ⟨⟨p1, p2, Nat.zero_le _, Nat.zero_le _, ?_, ?_, ?_, ?_, p9⟩, ⟨⟨q2, q4⟩, fun i hi => absurd hi (Nat.not_lt_zero i), fun i hi => absurd hi (Nat.not_lt_zero i)⟩, ?_, ⟨?_, ?_, ?_, ?_, ?_⟩, ?_⟩, ?_⟩
    · rw [q7.1, fA.1]; exact p5
    · rw [q7.1, fA.1]; exact p6
    · rw [q7.1, fA.1]; exact p7
    · rw [q7.2.1, fA.2.1]; exact p8
    · rw [o 7 0 (by decide), hA, pI_same]; rfl
    · rw [a4]; exact h0.1
    · rw [a4]; exact h0.2.1
    · rw [a4]; exact h0.2.2.1
    · rw [a4]; exact h0.2.2.2.1
    · rw [a4]; exact h0.2.2.2.2
    · have fa : cFac n A (xFa x_0) := by rw [hA]; exact cFac_w (by omega) hf
      exact sF (t := P 0) (fr_mono q7 (fun k j z => Or.inl z)) fa
    · exact cRoom_N hR (by rw [q7.2.1, fA.2.1])
  exact cloop (mk := mk) hF hkb hB (2 * B + 1) x_0 N fuel 0 (by unfold x_left; show 2 * (B - 0) + 0 + 1 ≤ _; omega) (by unfold fuel; omega) (by omega) qN xN (x0_ok hF)
end CI
