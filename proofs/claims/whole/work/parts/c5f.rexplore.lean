/-! PURE: the reference explores, whole. -/
section RE
variable {p : Nat → Int64} {n nm B : Nat} {sec mk : Nat → Prop} {kb vb : Int32 → Int32} {X : xT} {c : Int64} {R R1 M M1 N : me_M}
abbrev kbO (nm : Nat) (kb vb : Int32 → Int32) : Prop := ∀ m, m < nm → 0 ≤ (kb (nI m)).toInt ∧ (kb (nI m)).toInt ≤ 512 ∧ 0 ≤ (vb (nI m)).toInt ∧ (vb (nI m)).toInt ≤ 512
theorem rdoes (hQ : rQ p n mk nm kb vb R) (hX : rX2 n R X) (hF : pF p n sec nm) (hO : x_ok n sec nm B X) (hkb : kbO nm kb vb) : ∃ R1 r, f_M_does0 R 0 (nI (xAt X)) = some (R1, r) ∧ gy R R1 ∧ kv R1 ∧ aft n R1 r (x_do p kb vb X) := by
  have n2 := hQ.2.2.2.1
  have ha := hO.1
  obtain ⟨c, hc⟩ : ∃ c, p (xAt X) = c := ⟨_, rfl⟩
  by_cases f8 : d_fam c = 8
  · rw [rdo_in hQ.1 (show xAt X < 2000 by omega) ((hQ.2.2.2.2.1 _ ha).trans hc), kri, if_neg (show ¬ d_fam c = 6 by rw [f8]; decide), if_neg (show ¬ d_fam c = 7 by rw [f8]; decide), if_pos f8, if_neg (by decide), if_neg (by decide), if_neg (by decide), if_neg (by decide), if_neg (by decide), if_neg (by decide), if_neg (by decide), if_neg (by decide), if_neg (by decide), if_neg (by decide), if_pos rfl]
    have y : gy R (wI R 1 0 70 (nI (xAt X + 1))) := gw_y gw_70
    obtain ⟨R1, r, q1, q2, q3, q4⟩ := rjump (rQ_y hQ y (kv_w n1 hQ.2.1)) (rX2_70 hX) hF hO hc f8 pI_same
    rw [q1, b2_some]
    exact ⟨R1, r, rfl, gf_trans y q2, q3, q4⟩
  · obtain ⟨R1, r, q1, q2, q3, q4, q5⟩ := rdo hQ hX hF hO hc f8 hkb
    refine ⟨R1, r, q1, q2, q3, ?_⟩
    obtain ⟨k0, k1, k2, k3, k4, k5, k6⟩ := hF.2.2.2 (xAt X) ha hO.2.1
    rw [hc] at k4
    unfold x_do
    rw [hc]
    by_cases u : s_unr c (xNow X)
    · rw [ic_t u]
      exact Or.inl ⟨(q4 u).1, by rw [(q4 u).1]; decide, (q4 u).2⟩
    rw [ic_f u, if_neg f8]
    have d := q5 u
    have e := do_eP (c := c) (w := p (xAt X + 1)) (kb := kb) (vb := vb) (σ := xNow X) (d := xIds X)
    cases o : s_do c (p (xAt X + 1)) kb vb (xNow X) (xIds X) with
    | error f =>
      rw [o] at d e
      exact Or.inl ⟨d.1, by rw [d.1]; exact e, d.2⟩
    | ok q =>
      rw [o] at d
      obtain ⟨d1, d2, d3, d4, d5, d6⟩ := d
      show aft n R1 r (x_go X c q.1 q.2)
      unfold x_go
      by_cases f10 : d_fam c = 10
      · rw [if_pos f10]
        rw [if_neg (show ¬ d_fam c = 6 by rw [f10]; decide)] at d6
        exact Or.inr (Or.inr ⟨d1, d2 f10, x_mv X q.1 (xAt X) q.2, q.1, xAt X, rfl, d6, hO.2.2.2.1, hO.2.2.2.2.1⟩)
      rw [if_neg f10]
      by_cases f7 : d_fam c = 7
      · rw [if_pos f7]
        rw [if_neg (show ¬ d_fam c = 6 by rw [f7]; decide)] at d6
        exact Or.inr (Or.inl ⟨d1, rfl, (d3 f7).trans (k4 (Or.inl f7)).2.2, d6⟩)
      rw [if_neg f7]
      by_cases f6 : d_fam c = 6
      · rw [if_pos f6]
        rw [if_pos f6] at d6
        exact Or.inr (Or.inl ⟨d1, rfl, d5 (by rw [f6]; decide) f7 f10, d6⟩)
      rw [if_neg f6]
      rw [if_neg f6] at d6
      by_cases f1 : d_fam c = 1
      · rw [if_pos f1]
        exact Or.inr (Or.inl ⟨d1, rfl, d4 f1, d6⟩)
      · rw [if_neg f1]
        exact Or.inr (Or.inl ⟨d1, rfl, d5 f1 f7 f10, d6⟩)
/-- how a path's end stands -/
def endP (n : Nat) (k11 : me_M → Int32 → Option (me_M × Int32)) (o : Option (me_M × Int32)) (R1 : me_M) (res : Int32 × xT) : Prop := (res.1 = -1 ∧ o = k11 R1 (-1) ∧ rFin n R1 res.2) ∨ (res.1 = 0 ∧ o = k11 R1 (nI (xAt res.2)) ∧ rX2 n R1 res.2)
theorem rend {k11 : me_M → Int32 → Option (me_M × Int32)} {x1 : Int32} (hR : ps_M R) (hk : kv R) {Y : xT} {σ : sT} {a : Nat} (hX : rX2 n R (x_mv Y σ a (xIds Y))) (hK : xKn Y ≤ 200) (hW : xWn Y ≤ 200) : ∃ R1, gy R R1 ∧ kv R1 ∧ endP n k11 (f_M_explore_b102 k11 0 x1 R (-1)) R1 (x_end Y) := by
  unfold f_M_explore_b102 x_end
  have e25 : mI R 1 0 25 = nI (xPa Y) := hX.2.2.1.2.2.2.2
  have e62 : mI R 1 0 62 = nI (xWn Y) := hX.2.2.1.2.1
  rw [if_neg (by decide), st_eq, e25, nI_s, pI_place (by decide), e62]
  obtain ⟨N1, hN1⟩ : ∃ N1, N1 = wI R 1 0 25 (nI (xPa Y + 1)) := ⟨_, rfl⟩
  rw [← hN1]
  have y1 : gy R N1 := by rw [hN1]; exact gf_I (Or.inr (Or.inr (Or.inr ⟨rfl, rfl, by omega⟩)))
  have k1 : kv N1 := by rw [hN1]; exact kv_w n1 hk
  have i1 : ∀ f, ¬ f = 25 → mI N1 1 0 f = mI R 1 0 f := fun f h => by rw [hN1, pI_place h]
  have f1 : rFac n N1 (xFa Y) := by rw [hN1]; exact fac_1 hX.2.2.2.2.1
  by_cases w : xWn Y = 0
  · rw [if_pos (show nI (xWn Y) ≤ 0 by rw [w]; decide), if_pos w]
    refine ⟨N1, y1, k1, Or.inl ⟨rfl, rfl, ⟨?_, ?_, ?_, ?_, ?_⟩, f1⟩⟩
    · rw [i1 _ (by decide)]; exact hX.2.2.1.1
    · rw [i1 _ (by decide)]; exact hX.2.2.1.2.1
    · rw [i1 _ (by decide)]; exact hX.2.2.1.2.2.1
    · rw [i1 _ (by decide)]; exact hX.2.2.1.2.2.2.1
    · rw [hN1, pI_same]
  · obtain ⟨W, hWd⟩ : ∃ W, xWn Y = W + 1 := ⟨xWn Y - 1, by omega⟩
    have eW : xWn Y - 1 = W := by omega
    rw [if_neg (show ¬ nI (xWn Y) ≤ 0 from fun z => by have := (nI_lei (b := 0) (by omega) (by decide)).mp z; omega), if_neg w, st_eq, eW, hWd]
    have es : nI (W + 1) - 1 = nI W := by rw [← nI_s, Int32.add_sub_cancel]
    rw [es]
    obtain ⟨N2, hN2⟩ : ∃ N2, N2 = wI N1 1 0 62 (nI W) := ⟨_, rfl⟩
    rw [← hN2]
    have y2 : gy R N2 := gf_trans y1 (by rw [hN2]; exact gf_I (Or.inr (Or.inr (Or.inr ⟨rfl, rfl, by omega⟩))))
    have k2 : kv N2 := by rw [hN2]; exact kv_w n1 k1
    have e2 : mI N2 1 0 62 = nI W := by rw [hN2, pI_same]
    obtain ⟨N3, c1, c2, c3, c4⟩ := rcopy (M := N2) (a := 201 + W) (b := 0) (gf_ps y2 hR) k2 (by omega) (by decide) (by omega)
    rw [e2, show (201 : Int32) = nI 201 from rfl, nI_add, show f_M_copyState N2 0 (nI (201 + W)) (0 : Int32) = some N3 from c1, bd_some]
    have z3 := rf_z c2
    have e3 : mI N3 1 0 62 = nI W := by rw [gz_1 z3 (by decide)]; exact e2
    obtain ⟨bh, g, wb, C, hC⟩ := hX.2.2.2.2.2
    obtain ⟨d1, d2, d3, d4, d5, d6, d7, d8⟩ := hC
    have ww : W < xWn Y := by omega
    have e14 : mI N3 13 14 W = nI (wb W) := by
      rw [gz_13 z3 (by decide), hN2, wI_j (by decide), hN1, wI_j (by decide)]
      exact (d4 W ww).1
    rw [rs_64 hR, bd_some, e3, rz_13_14 hR, gd_pos (ix_ok (by omega) (by decide)), nI_tn (by omega), e14, st_eq, rs_63 hR, bd_some]
    obtain ⟨N4, hN4⟩ : ∃ N4, N4 = wI N3 1 0 65 (nI (wb W)) := ⟨_, rfl⟩
    rw [← hN4]
    have e4 : mI N4 1 0 62 = nI W := by rw [hN4, pI_place (by decide)]; exact e3
    have ej : ∀ j f, (j < 6 ∨ (11 ≤ j ∧ j ≤ 14)) → mI N4 13 j f = mI R 13 j f := fun j f h => by
      rw [hN4, wI_j (by omega), gz_13 z3 h, hN2, wI_j (by omega), hN1, wI_j (by omega)]
    have e13 : mI N4 13 13 W = nI (xWt Y W).2 := by rw [ej 13 _ (by decide)]; exact hX.2.2.2.1.2 W ww
    rw [e4, rz_13_13 hR, gd_pos (ix_ok (by omega) (by decide)), nI_tn (by omega), e13, st_eq]
    have r4 : ∀ r, rv N4 r = rv N3 r := fun r => by rw [hN4, rv_w n1 (by decide)]
    have r2 : ∀ r, rv N2 r = rv R r := fun r => by rw [hN2, rv_w n1 (by decide), hN1, rv_w n1 (by decide)]
    have i4 : ∀ f, ¬ f = 25 → ¬ f = 62 → ¬ f = 65 → ¬ (f = 59 ∨ f = 68 ∨ f = 69 ∨ f = 70) → mI N4 1 0 f = mI R 1 0 f := fun f h1 h2 h3 h4 => by
      rw [hN4, pI_place h3, gz_1 z3 h4, hN2, pI_place h2, i1 f h1]
    refine ⟨N4, gf_trans y2 (gf_trans (gz_y z3) (by rw [hN4]; exact gf_I (Or.inr (Or.inr (Or.inr ⟨rfl, rfl, by omega⟩))))), by rw [hN4]; exact kv_w n1 c3, Or.inr ⟨rfl, rfl, ⟨?_, ?_, ?_⟩, ?_, ⟨?_, ?_, ?_, ?_, ?_⟩, ⟨?_, ?_⟩, ?_, ?_⟩⟩
    · show e75 (rv N4 0) (xWt Y W).1
      rw [r4]
      refine e75_trans c4 ?_
      rw [r2]
      exact hX.1.2.2 W ww
    · intro i hi
      show e75 (rv N4 (i + 1)) (xKp Y i).1
      rw [r4]
      refine e75_trans (rf_row c2 (by omega)) ?_
      rw [r2]
      exact hX.1.2.1 i hi
    · intro i hi
      have hi2 : i < W := hi
      show e75 (rv N4 (201 + i)) (xWt Y i).1
      rw [r4]
      refine e75_trans (rf_row c2 (by omega)) ?_
      rw [r2]
      exact hX.1.2.2 i (show i < xWn Y by omega)
    · show mI N4 1 0 59 = xIds Y
      rw [hN4, pI_place (by decide), rf_59 c2, hN2, pI_place (by decide), i1 _ (by decide)]
      exact hX.2.1
    · rw [i4 23 (by decide) (by decide) (by decide) (by decide)]; exact hX.2.2.1.1
    · exact e4
    · rw [i4 22 (by decide) (by decide) (by decide) (by decide)]; exact hX.2.2.1.2.2.1
    · rw [i4 24 (by decide) (by decide) (by decide) (by decide)]; exact hX.2.2.1.2.2.2.1
    · rw [hN4, pI_place (by decide), gz_1 z3 (by decide), hN2, pI_place (by decide), hN1, pI_same]
    · intro i hi
      rw [ej 11 _ (by decide)]
      exact hX.2.2.2.1.1 i hi
    · intro i hi
      have hi2 : i < W := hi
      rw [ej 13 _ (by decide)]
      exact hX.2.2.2.1.2 i (show i < xWn Y by omega)
    · intro s hs
      rw [hN4, wI_j (by omega), wI_j (by omega), wI_j (by omega), wI_j (by omega), pL_I, gz_13 z3 (by decide), gz_13 z3 (by decide), gz_15 z3, gz_15 z3, gz_16 z3 (by decide), hN2, wI_j (by omega), wI_j (by omega), wI_j (by omega), wI_j (by omega), pL_I]
      exact f1 s hs
    · refine ⟨wb W, g, wb, C, by rw [hN4, pI_same], (d4 W ww).2, fun k a b => ?_, fun w hw => ?_, d5, fun i hi => ?_, fun w i hw hi => ?_, fun i hi => ?_⟩
      · rw [ej 12 _ (by decide)]; exact d3 k a b
      · have hw2 : w < W := hw
        rw [ej 14 _ (by decide)]
        exact d4 w (show w < xWn Y by omega)
      · show C (wb W) (i + 1) ↔ ((xKp Y i).2.2.1 ∧ (xKp Y i).2.2.2 < xWn Y)
        refine (d7 W i ww hi).trans ⟨fun z => ⟨z.1, ?_⟩, fun z => ⟨z.1, ?_⟩⟩
        · have : (xKp Y i).2.2.2 ≤ W := z.2
          omega
        · have : (xKp Y i).2.2.2 < xWn Y := z.2
          show (xKp Y i).2.2.2 ≤ W
          omega
      · have hw2 : w < W := hw
        show C (wb w) (i + 1) ↔ (((xKp Y i).2.2.1 ∧ (xKp Y i).2.2.2 < xWn Y) ∧ (xKp Y i).2.2.2 ≤ w)
        refine (d7 w i (show w < xWn Y by omega) hi).trans ⟨fun z => ⟨⟨z.1, ?_⟩, z.2⟩, fun z => ⟨z.1.1, z.2⟩⟩
        have : (xKp Y i).2.2.2 ≤ w := z.2
        omega
      · rintro ⟨z1, z2⟩
        have z3 : (xKp Y i).2.2.2 < xWn Y := z2
        show (xKp Y i).2.2.2 ≤ W
        omega
/-- how a turn stands -/
def turnP (n : Nat) (k11 : me_M → Int32 → Option (me_M × Int32)) (o : Option (me_M × Int32)) (R1 : me_M) (res : Int32 × xT) : Prop := (res.1 = 0 ∧ o = k11 R1 (nI (xAt res.2)) ∧ rX2 n R1 res.2) ∨ (res.1 = -1 ∧ o = k11 R1 (-1) ∧ rFin n R1 res.2) ∨ (0 < res.1 ∧ o = some (R1, res.1) ∧ rFin n R1 res.2)
theorem end_turn {k11 : me_M → Int32 → Option (me_M × Int32)} {o : Option (me_M × Int32)} {res : Int32 × xT} (h : endP n k11 o R1 res) : turnP n k11 o R1 res := by
  rcases h with h | h
  · exact Or.inr (Or.inl h)
  · exact Or.inl h
theorem vis_ok (hO : x_ok n sec nm B X) (g : xVi X < B) : x_ok n sec nm B (x_vis X) := ⟨hO.1, hO.2.1, hO.2.2.1, hO.2.2.2.1, hO.2.2.2.2.1, hO.2.2.2.2.2.1, by show xVi X + 1 ≤ B; omega, hO.2.2.2.2.2.2.2⟩
theorem rstep {k11 : me_M → Int32 → Option (me_M × Int32)} (hQ : rQ p n mk nm kb vb R) (hX : rX2 n R X) (hF : pF p n sec nm) (hO : x_ok n sec nm B X) (hkb : kbO nm kb vb) (hB : B ≤ 20000) : ∃ R1, gy R R1 ∧ kv R1 ∧ turnP n k11 (f_M_explore_b38 k11 0 (nI B) R (nI (xAt X)) 0) R1 (x_step p kb vb B X) := by
  have n2 := hQ.2.2.2.1
  have ha := hO.1
  have hv : xVi X ≤ B := hO.2.2.2.2.2.2.1
  have e22 : mI R 1 0 22 = nI (xVi X) := hX.2.2.1.2.2.1
  unfold f_M_explore_b38 x_step
  rw [if_pos (by decide), if_pos rfl, e22]
  by_cases g : B ≤ xVi X
  · rw [if_pos (show nI (xVi X) = nI B by rw [show xVi X = B by omega]), if_pos g]
    exact ⟨R, gf_refl, hQ.2.1, Or.inr (Or.inr ⟨show (0 : Int32) < 20 by decide, rfl, hX.2.2.1, hX.2.2.2.2.1⟩)⟩
  rw [if_neg (show ¬ nI (xVi X) = nI B from fun z => g (by have := nI_inj (by omega) (by omega) z; omega)), if_neg g, st_eq, nI_s, rs_27 hQ.1, bd_some, rz_13_4 hQ.1, gd_pos (ix_ok (by omega) (by decide)), nI_tn (by omega), wI_j (by decide), st_eq, (hX.2.2.2.2.1 _ ha).1]
  obtain ⟨N, hN⟩ : ∃ N, N = wI (wI R 1 0 22 (nI (xVi X + 1))) 13 4 (xAt X) ((xFa X).1 (xAt X) + 1) := ⟨_, rfl⟩
  rw [← hN]
  have gN : gw R N := by rw [hN]; exact gf_trans (gf_I (Or.inr (Or.inr ⟨rfl, rfl, by omega⟩))) (gf_I (Or.inl ⟨rfl, Or.inl rfl⟩))
  have xN : rX2 n N (x_vis X) := by
    refine rX2_w (a := xAt X) hX gN ⟨?_, ?_, ?_⟩ ?_
    · rw [hN, wI_j (by decide), pI_same]
    · rw [hN, wI_j (by decide), pI_place (by decide)]; exact hX.2.2.1.2.2.2.1
    · rw [hN, wI_j (by decide), pI_place (by decide)]; exact hX.2.2.1.2.2.2.2
    · intro q hq
      obtain ⟨a1, a2, a3, a4, a5⟩ := hX.2.2.2.2.1 q hq
      rw [hN]
      refine ⟨?_, by rw [wI_j (by decide), wI_j (by decide)]; exact a2, by rw [wI_j (by decide), wI_j (by decide)]; exact a3, by rw [wI_j (by decide), wI_j (by decide)]; exact a4, a5⟩
      show mI (wI (wI R 1 0 22 (nI (xVi X + 1))) 13 4 (xAt X) ((xFa X).1 (xAt X) + 1)) 13 4 q = fup (xFa X).1 (xAt X) ((xFa X).1 (xAt X) + 1) q
      by_cases e : q = xAt X
      · rw [e, fup_s, pI_same]
      · rw [fup_o e, pI_place e, wI_j (by decide)]; exact a1
  have qN : rQ p n mk nm kb vb N := rQ_y hQ (gw_y gN) (gw_kv gN hQ.2.1)
  obtain ⟨R1, r, q1, q2, q3, q4⟩ := rdoes qN xN hF (vis_ok hO (by omega)) hkb
  rw [show f_M_does0 N 0 (nI (xAt X)) = some (R1, r) from q1, b2_some]
  have gd := step_good (kb := kb) (vb := vb) hF hO (Nat.le_refl _)
  unfold x_step at gd
  rw [if_neg g] at gd
  rcases q4 with q4 | q4 | q4
  · obtain ⟨e1, e2, e3⟩ := q4
    rw [if_neg (fun z => by
      rw [Int32.lt_iff_toInt_lt] at e2
      rw [Int32.le_iff_toInt_le] at z
      omega), e1]
    exact ⟨R1, gf_trans (gw_y gN) q2, q3, Or.inr (Or.inr ⟨by rw [← e1]; exact e2, rfl, e3⟩)⟩
  · obtain ⟨e1, e2, e3, e4⟩ := q4
    rw [e1, if_pos (by decide), st_eq, e3]
    refine ⟨R1, gf_trans (gw_y gN) q2, q3, Or.inl ⟨e2, ?_, e4⟩⟩
    unfold f_M_explore_b102
    have := (gd e2).1.1
    rw [if_pos (show (0 : Int32) ≤ nI (xAt (x_do p kb vb (x_vis X)).2) from (nI_lei (a := 0) (by decide) (by omega)).mpr (by omega))]
  · obtain ⟨e1, e2, Y, σ, a, e3, e4, e5, e6⟩ := q4
    rw [e1, if_pos (by decide), st_eq, e2, e3]
    obtain ⟨R2, w1, w2, w3⟩ := rend (k11 := k11) (x1 := nI B) (gf_ps q2 qN.1) q3 e4 e5 e6
    exact ⟨R2, gf_trans (gw_y gN) (gf_trans q2 w1), w2, end_turn w3⟩
/-! where a fault is -/
theorem do_at (h1 : ¬ (x_do p kb vb X).1 = 0) (h2 : ¬ (x_do p kb vb X).1 = -1) : xAt (x_do p kb vb X).2 = xAt X := by
  have en : ∀ Y, ¬ (x_end Y).1 = 0 → ¬ (x_end Y).1 = -1 → False := by
    intro Y a b
    unfold x_end at a b
    by_cases w : xWn Y = 0
    · rw [if_pos w] at b; exact b rfl
    · rw [if_neg w] at a; exact a rfl
  unfold x_do at h1 h2 ⊢
  by_cases u : s_unr (p (xAt X)) (xNow X)
  · rw [ic_t u]
  rw [ic_f u] at h1 h2 ⊢
  by_cases f8 : d_fam (p (xAt X)) = 8
  · rw [if_pos f8] at h1 h2 ⊢
    cases o : s_rel (p (xAt X)) (xNow X) with
    | error f => rfl
    | ok q =>
      obtain ⟨g, l⟩ := q
      rw [o] at h1 h2
      cases g with
      | none =>
        cases l with
        | none => exact (en _ h1 h2).elim
        | some b => exact absurd rfl h1
      | some a =>
        cases l with
        | none => exact absurd rfl h1
        | some b =>
          have h1' : ¬ (if xWn X = 200 then ((21 : Int32), x_fac X (f_way (xFa X) (xAt X) True True)) else (0, x_fac X (f_way (xFa X) (xAt X) True True))).1 = 0 := by
            intro z
            apply h1
            show (if xWn X = 200 then ((21 : Int32), _) else (0, _)).1 = 0
            by_cases w : xWn X = 200
            · rw [if_pos w] at z; exact absurd z (by decide : ¬ (21 : Int32) = 0)
            · rw [if_neg w]
          by_cases w : xWn X = 200
          · show xAt (if xWn X = 200 then ((21 : Int32), _) else (0, _)).2 = xAt X
            rw [if_pos w]
            rfl
          · rw [if_neg w] at h1'
            exact absurd rfl h1'
  · rw [if_neg f8] at h1 h2 ⊢
    cases o : s_do (p (xAt X)) (p (xAt X + 1)) kb vb (xNow X) (xIds X) with
    | error f => rfl
    | ok q =>
      rw [o] at h1 h2
      have h1' : ¬ (x_go X (p (xAt X)) q.1 q.2).1 = 0 := h1
      have h2' : ¬ (x_go X (p (xAt X)) q.1 q.2).1 = -1 := h2
      exfalso
      unfold x_go at h1' h2'
      by_cases f10 : d_fam (p (xAt X)) = 10
      · rw [if_pos f10] at h1' h2'; exact en _ h1' h2'
      rw [if_neg f10] at h1'
      by_cases f7 : d_fam (p (xAt X)) = 7
      · rw [if_pos f7] at h1'; exact h1' rfl
      rw [if_neg f7] at h1'
      by_cases f6 : d_fam (p (xAt X)) = 6
      · rw [if_pos f6] at h1'; exact h1' rfl
      rw [if_neg f6] at h1'
      by_cases f1 : d_fam (p (xAt X)) = 1
      · rw [if_pos f1] at h1'; exact h1' rfl
      · rw [if_neg f1] at h1'; exact h1' rfl
theorem step_at (h1 : ¬ (x_step p kb vb B X).1 = 0) (h2 : ¬ (x_step p kb vb B X).1 = -1) : xAt (x_step p kb vb B X).2 = xAt X := by
  unfold x_step at h1 h2 ⊢
  by_cases g : B ≤ xVi X
  · rw [if_pos g]
  · rw [if_neg g] at h1 h2 ⊢
    exact do_at h1 h2
theorem keep_at : xAt (x_keep X) = xAt X := by
  unfold x_keep
  by_cases g : xKn X < 200
  · rw [if_pos g]
  · rw [if_neg g]
theorem turn_at (h1 : ¬ (x_turn p mk kb vb B X).1 = 0) (h2 : ¬ (x_turn p mk kb vb B X).1 = -1) : xAt (x_turn p mk kb vb B X).2 = xAt X := by
  unfold x_turn at h1 h2 ⊢
  by_cases g : mk (xAt X)
  · rw [ic_t g] at h1 h2 ⊢
    cases o : x_hit X with
    | none =>
      rw [o] at h1 h2
      exact (step_at h1 h2).trans keep_at
    | some i =>
      rw [o] at h1 h2
      have h1' : ¬ (ic (xKp X i).2.2.1 (19, X) (x_end X)).1 = 0 := h1
      have h2' : ¬ (ic (xKp X i).2.2.1 (19, X) (x_end X)).1 = -1 := h2
      show xAt (ic (xKp X i).2.2.1 (19, X) (x_end X)).2 = xAt X
      by_cases w : (xKp X i).2.2.1
      · rw [ic_t w]
      · rw [ic_f w] at h1' h2'
        exfalso
        unfold x_end at h1' h2'
        by_cases z : xWn X = 0
        · rw [if_pos z] at h2'; exact h2' rfl
        · rw [if_neg z] at h1'; exact h1' rfl
  · rw [ic_f g] at h1 h2 ⊢
    exact step_at h1 h2
/-! the loop -/
def lA (k j f : Nat) : Prop := yA k j f ∨ (k = 1 ∧ j = 0 ∧ f = 21)
theorem gy_l (h : gy M M1) : gf lA yB M M1 := gf_mono h (fun _ _ _ z => Or.inl z) (fun _ _ _ z => z)
theorem fac_21 (h : rX2 n M X) {v : Int32} : rX2 n (wI M 1 0 21 v) X := by
  obtain ⟨h1, h2, h3, h4, h5, bh, g, wb, C, c1, c2, c3, c4, c5⟩ := h
  have i1 : ∀ f, ¬ f = 21 → mI (wI M 1 0 21 v) 1 0 f = mI M 1 0 f := fun f z => pI_place z
  have r1 : ∀ r, rv (wI M 1 0 21 v) r = rv M r := fun r => rv_w n1 (by decide)
  refine ⟨⟨by rw [r1]; exact h1.1, fun i hi => by rw [r1]; exact h1.2.1 i hi, fun i hi => by rw [r1]; exact h1.2.2 i hi⟩, by rw [i1 _ (by decide)]; exact h2, ⟨by rw [i1 _ (by decide)]; exact h3.1, by rw [i1 _ (by decide)]; exact h3.2.1, by rw [i1 _ (by decide)]; exact h3.2.2.1, by rw [i1 _ (by decide)]; exact h3.2.2.2.1, by rw [i1 _ (by decide)]; exact h3.2.2.2.2⟩, ⟨fun i hi => by rw [wI_j (by decide)]; exact h4.1 i hi, fun i hi => by rw [wI_j (by decide)]; exact h4.2 i hi⟩, fac_1 h5, bh, g, wb, C, by rw [i1 _ (by decide)]; exact c1, c2, fun k a b => by rw [wI_j (by decide)]; exact c3 k a b, fun w hw => by rw [wI_j (by decide)]; exact c4 w hw, c5⟩
theorem rQ_l (h : rQ p n mk nm kb vb R) {v : Int32} : rQ p n mk nm kb vb (wI R 1 0 21 v) := by
  obtain ⟨h1, h2, h3, h4, h5, h6⟩ := h
  exact ⟨ps_W h1, kv_w n1 h2, ⟨h3.1, fun m hm => by rw [wI_j (by decide), wI_j (by decide)]; exact h3.2 m hm⟩, h4, h5, fun s hs => by rw [wI_j (by decide)]; exact h6 s hs⟩
theorem rturn {k11 : me_M → Int32 → Option (me_M × Int32)} (hQ : rQ p n mk nm kb vb R) (hX : rX2 n R X) (hF : pF p n sec nm) (hO : x_ok n sec nm B X) (hkb : kbO nm kb vb) (hB : B ≤ 20000) : ∃ R1, gy R R1 ∧ kv R1 ∧ turnP n k11 (if (mI R 15 4 (xAt X)) = 0 then f_M_explore_b38 k11 0 (nI B) R (nI (xAt X)) (0 : Int32) else b2 (f_M_lookAtKept R 0 (nI (xAt X))) (fun (M33 : me_M) (r34 : Int32) => f_M_explore_b38 k11 0 (nI B) M33 (nI (xAt X)) r34)) R1 (x_turn p mk kb vb B X) := by
  unfold x_turn
  rw [hQ.2.2.2.2.2 _ hO.1]
  by_cases g : mk (xAt X)
  · rw [if_neg (b1_n0 g), ic_t g]
    obtain ⟨N, r, q1, q2⟩ := rlook hQ hX hO.2.2.2.1 hO.2.2.2.2.1 hO.1 (fun i hi => (hO.2.2.2.2.2.2.2.2 i hi).1)
    rw [q1, b2_some]
    cases o : x_hit X with
    | none =>
      rw [o] at q2
      obtain ⟨r0, y1, k1, x1⟩ := q2
      rw [r0]
      obtain ⟨R1, w1, w2, w3⟩ := rstep (k11 := k11) (rQ_y hQ y1 k1) x1 hF (keep_ok hO).1 hkb hB
      rw [keep_at] at w3
      exact ⟨R1, gf_trans y1 w1, w2, w3⟩
    | some i =>
      rw [o] at q2
      obtain ⟨i1, p1, r1⟩ := q2
      show ∃ R1, gy R R1 ∧ kv R1 ∧ turnP n k11 (f_M_explore_b38 k11 0 (nI B) N (nI (xAt X)) r) R1 (ic (xKp X i).2.2.1 (19, X) (x_end X))
      have xN := rX2_p hX p1
      have yN : gy R N := gz_y (rp_z p1)
      have kN := rp_kv p1 hQ.2.1
      rw [r1]
      unfold f_M_explore_b38
      by_cases w : (xKp X i).2.2.1
      · rw [ic_t w, ic_t w, if_neg (by decide)]
        exact ⟨N, yN, kN, Or.inr (Or.inr ⟨show (0 : Int32) < 19 by decide, rfl, xN.2.2.1, xN.2.2.2.2.1⟩)⟩
      · rw [ic_f w, ic_f w, if_pos (by decide), if_neg (by decide)]
        obtain ⟨R1, w1, w2, w3⟩ := rend (k11 := k11) (x1 := nI B) (gf_ps yN hQ.1) kN (Y := X) (σ := xNow X) (a := xAt X) xN hO.2.2.2.1 hO.2.2.2.2.1
        exact ⟨R1, gf_trans yN w1, w2, end_turn w3⟩
  · rw [if_pos (b1_f g), ic_f g]
    exact rstep hQ hX hF hO hkb hB
theorem rloop (hF : pF p n sec nm) (hkb : kbO nm kb vb) (hB : B ≤ 20000) : ∀ (m : Nat) (X : xT) (R : me_M) (fu : Nat), x_left B X ≤ m → m + 1 < fu → rQ p n mk nm kb vb R → rX2 n R X → x_ok n sec nm B X → ∃ R1, f_M_explore_l11 0 (nI B) fu R (nI (xAt X)) = some (R1, if (x_run p mk kb vb B m X).1 = -1 then 0 else (x_run p mk kb vb B m X).1) ∧ gf lA yB R R1 ∧ kv R1 ∧ rFin n R1 (x_run p mk kb vb B m X).2 ∧ (¬ (x_run p mk kb vb B m X).1 = -1 → mI R1 1 0 21 = nI (xAt (x_run p mk kb vb B m X).2)) := by
  intro m
  induction m with
  | zero => intro X R fu h; unfold x_left at h; omega
  | succ m ih =>
    intro X R fu hl hf hQ hX hO
    obtain ⟨fu, rfl⟩ : ∃ f, fu = f + 1 := ⟨fu - 1, by omega⟩
    have n2 := hQ.2.2.2.1
    have ha := hO.1
    rw [f_M_explore_l11, x_run, if_neg (nI_ps (by omega)), st_eq, rs_33 hQ.1, bd_some, rz_15_4 hQ.1, gd_pos (ix_ok (by omega) (by decide)), nI_tn (by omega)]
    obtain ⟨A, hA⟩ : ∃ A, A = wI R 1 0 21 (nI (xAt X)) := ⟨_, rfl⟩
    have lA' : gf lA yB R A := by rw [hA]; exact gf_I (Or.inr ⟨rfl, rfl, rfl⟩)
    have qA : rQ p n mk nm kb vb A := by rw [hA]; exact rQ_l hQ
    have xA : rX2 n A X := by rw [hA]; exact fac_21 hX
    have a21 : mI A 1 0 21 = nI (xAt X) := by rw [hA, pI_same]
    rw [← hA]
    obtain ⟨R1, w1, w2, w3⟩ := rturn (k11 := f_M_explore_l11 0 (nI B) fu) qA xA hF hO hkb hB
    have tg := turn_good (mk := mk) (kb := kb) (vb := vb) hF hO
    rcases w3 with ⟨e1, e2, e3⟩ | ⟨e1, e2, e3⟩ | ⟨e1, e2, e3⟩
    · obtain ⟨t1, t2⟩ := tg e1
      rw [e2, if_pos e1]
      obtain ⟨R2, v1, v2, v3⟩ := ih _ R1 fu (by omega) (by omega) (rQ_y qA w1 w2) e3 t1
      exact ⟨R2, v1, gf_trans lA' (gf_trans (gy_l w1) v2), v3⟩
    · have ne : ¬ (x_turn p mk kb vb B X).1 = 0 := by rw [e1]; decide
      rw [e2, if_neg ne, if_pos e1]
      obtain ⟨fu, rfl⟩ : ∃ f, fu = f + 1 := ⟨fu - 1, by omega⟩
      rw [f_M_explore_l11, if_pos (by decide)]
      exact ⟨R1, rfl, gf_trans lA' (gy_l w1), w2, e3, fun z => absurd e1 z⟩
    · have ne : ¬ (x_turn p mk kb vb B X).1 = 0 := pos_n0 e1
      have ne2 : ¬ (x_turn p mk kb vb B X).1 = -1 := fun z => by rw [z] at e1; exact absurd e1 (by decide)
      rw [e2, if_neg ne, if_neg ne2]
      refine ⟨R1, rfl, gf_trans lA' (gy_l w1), w2, e3, fun _ => ?_⟩
      rw [turn_at ne ne2, w1.2.2.2.1 1 0 21 (by
        rintro (z | z | z | z)
        · rcases z with q | q <;> exact absurd q.1 (by decide)
        · exact absurd z.1 (by decide)
        · exact absurd z.1 (by decide)
        · exact absurd z.2.2 (by decide))]
      exact a21
end RE
