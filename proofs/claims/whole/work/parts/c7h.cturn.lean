/-! PURE: the class explores, whole. -/
/-- how a turn stands -/
def cTurn (n : Nat) (k16 : me_M → Int32 → Option (me_M × Int32)) (y2 : Int32) (o : Option (me_M × Int32)) (M1 : me_M) (res : Int32 × xT) : Prop := (res.1 = 0 ∧ o = k16 M1 (y2 + 1) ∧ cZ n M1 res.2) ∨ (res.1 = -1 ∧ o = some (M1, 0) ∧ cFin n M1 res.2) ∨ (0 < res.1 ∧ o = some (M1, res.1) ∧ cFin n M1 res.2)
section CT
variable {Mz : me_M} {p : Nat → Int64} {n nm B : Nat} {sec mk : Nat → Prop} {kb vb : Int32 → Int32} {X : xT} {c : Int64} {M M0 M1 M2 N : me_M} {s t ka wa : Nat} {P : Nat → Nat} {k16 : me_M → Int32 → Option (me_M × Int32)} {y2 : Int32}
theorem end_code : (xWn X = 0 → (x_end X).1 = -1) ∧ (¬ xWn X = 0 → (x_end X).1 = 0) := by
  unfold x_end
  exact ⟨fun h => by rw [if_pos h], fun h => by rw [if_neg h]⟩
theorem cafter {x1 : Int32} {r : Int32} {res : Int32 × xT} (hQ : cQ Mz p n mk nm kb vb M) (h : cOut n M r res) : ∃ M1, cQ Mz p n mk nm kb vb M1 ∧ cTurn n k16 y2 (f_Explorer_explore_b145 k16 0 x1 M y2 r) M1 res := by
  unfold f_Explorer_explore_b145
  rcases h with ⟨h1, h2, h3⟩ | ⟨h1, h2, h3, h4⟩ | ⟨h1, h2, Y, h3, h4, h5, h6, h7⟩
  · rw [if_neg (pos_n0 h2)]
    exact ⟨M, hQ, Or.inr (Or.inr ⟨by rw [← h1]; exact h2, by rw [h1], h3⟩)⟩
  · rw [if_pos h1, if_pos h3]
    exact ⟨M, hQ, Or.inl ⟨h2, rfl, h4⟩⟩
  · obtain ⟨M1, q1, q2, q3⟩ := cend hQ h4 h5 h6 h7
    rw [if_pos h1, if_neg (by rw [h2]; decide), q1, b2_some, h3]
    refine ⟨M1, q2, ?_⟩
    by_cases w : xWn Y = 0
    · rw [if_pos w, if_pos rfl]
      obtain ⟨P, ka, wa, e1, e2⟩ := q3
      exact Or.inr (Or.inl ⟨end_code.1 w, rfl, cE_fin e1 e2⟩)
    · rw [if_neg w, if_neg (by decide)]
      exact Or.inl ⟨end_code.2 w, rfl, q3⟩
/-- the place of the state now is written -/
theorem cE_at (h : cE n M P ka wa X) {a : Nat} : cE n (wI M 9 (P 0) 2 (nI a)) P ka wa (x_mv X (xNow X) a (xIds X)) := by
  have g : fs (P 0) M (wI M 9 (P 0) 2 (nI a)) := sP_fs (fr_I (Or.inl ⟨rfl, rfl⟩))
  have o : ∀ k f, ¬ k = 9 → mI (wI M 9 (P 0) 2 (nI a)) k 0 f = mI M k 0 f := fun k f hk => wI_j (fun z => hk z.1)
  exact cE_s (vi := xVi X) (mw := xMw X) (pa := xPa X) h g ⟨h.2.1.1.1, pI_same⟩ (by rw [o 7 _ (by decide)]; exact h.2.2.1) (o 4 9 (by decide)) (o 4 11 (by decide)) ⟨by rw [o 4 _ (by decide)]; exact h.2.2.2.1.2.2.1, by rw [o 4 _ (by decide)]; exact h.2.2.2.1.2.2.2.1, by rw [o 4 _ (by decide)]; exact h.2.2.2.1.2.2.2.2⟩ (cFac_w (by omega) h.2.2.2.2)
theorem cE_4 (h : cE n M P ka wa X) {v : Int32} : cE n (wI M 4 0 10 v) P ka wa X := cE_q (vi := xVi X) (mw := xMw X) (pa := xPa X) (d := xIds X) h (fr_I (Or.inl rfl)) (by rw [wI_j (by decide)]; exact h.2.2.1) (pI_place (by decide)) (pI_place (by decide)) ⟨by rw [pI_place (by decide)]; exact h.2.2.2.1.2.2.1, by rw [pI_place (by decide)]; exact h.2.2.2.1.2.2.2.1, by rw [pI_place (by decide)]; exact h.2.2.2.1.2.2.2.2⟩ (cFac_w (by omega) h.2.2.2.2)
/-- on from an instruction that is no relation -/
theorem cgo {σ : sT} {d : Int32} (hQ : cQ Mz p n mk nm kb vb M) (h : cE n M P ka wa (x_mv X σ (xAt X) d)) (hR : cRoom M ka wa) (hO : x_ok n sec nm B X) (hl : lk M 0 c) (f8 : ¬ d_fam c = 8) (hti : d_ti c < 11) (htg : d_fam c = 7 → nI (xAt X) + 1 + d_off c = nI (d_tg c (xAt X))) (h10 : mI M 4 0 10 = 0) : ∃ M1, f_Explorer_goOn M 0 (nI (xAt X)) = some (M1, 0) ∧ cQ Mz p n mk nm kb vb M1 ∧ cOut n M1 0 (x_go X c σ d) := by
  obtain ⟨ha, hsec, hg, hK, hW, hWt, hVi, hMw, hKp⟩ := hO
  obtain ⟨x0, x1, x2, x3, x4, x5, x6, z1, z2, z3, z4⟩ := hQ.1
  obtain ⟨l1, l2, l3, l4, l5, l6, l7, l8, l9, l10, l11⟩ := hl
  have p0 := h.1.2.2.2.2.1
  have t0 := (h.1.2.2.2.2.2.2.2.1 0 vd_0).1
  unfold f_Explorer_goOn x_go f_Code_behind f_Code_target
  rw [x0, bd_some, l6]
  have mv : ∀ {a : Nat}, cQ Mz p n mk nm kb vb (wI M 9 (P 0) 2 (nI a)) ∧ cOut n (wI M 9 (P 0) 2 (nI a)) 0 (0, x_mv X σ a d) := by
    intro a
    refine ⟨cQ_9 hQ (by decide) t0, Or.inr (Or.inl ⟨rfl, rfl, by rw [wI_j (fun z => absurd z.1 (by decide))]; exact h10, P, ka, wa, cE_at h, cRoom_N hR rfl⟩)⟩
  by_cases f6 : d_fam c = 6
  · rw [if_pos f6, if_neg (by rw [f6]; decide), if_neg (by rw [f6]; decide), if_pos f6]
    obtain ⟨t, ht, e1, e2⟩ := d_ti_n hti
    rw [x1, bd_some, p0, bd_some, (hQ.2.1.1 _ t0).1, bd_some, l2, e1, (hQ.2.1.1 _ t0).2, gd_pos (ix_ok (by omega) (by decide)), nI_tn (by omega), hQ.2.1.2.1 _ t t0 (by omega), bd_some]
    have ex : cv M (75 * P 0 + t + 1) = σ t := h.2.1.1.1 t (by omega)
    obtain ⟨N, q1, q2, q3⟩ := creckon hQ ha h.2.2.2.2 (hQ.2.1.2.2 (75 * P 0 + t + 1) (by omega)) ex
    have nq : ∀ k, ¬ (k = 13 ∨ k = 16) → ∀ j, mI N k j = mI M k j := fun k hk j => q2.2.2.2.1 k j (by rintro (z | z) <;> omega)
    have fN : fq M N := fr_mono q2 (fun k j z => by
      rcases z with z | z
      · exact Or.inr (Or.inr (Or.inr (Or.inr (Or.inr (Or.inl ⟨z.1, Or.inr (Or.inl z.2)⟩)))))
      · exact Or.inr (Or.inr (Or.inr (Or.inr (Or.inr (Or.inr (Or.inr z)))))))
    have i13 : mI N 13 3 = mI M 13 3 ∧ mI N 13 4 = mI M 13 4 := ⟨q2.2.2.2.1 13 3 (by rintro (z | z) <;> omega), q2.2.2.2.1 13 4 (by rintro (z | z) <;> omega)⟩
    have qN : cQ Mz p n mk nm kb vb N := cQ_q hQ fN (by rw [nq 2 (by decide)]) ⟨by rw [i13.1]; exact hQ.2.2.2.2.2.2.2.2.1.1, by rw [i13.2]; exact hQ.2.2.2.2.2.2.2.2.1.2⟩
    have xN : cE n N P ka wa (x_mv (x_fac X (f_rck (xFa X) (xAt X) (σ t))) σ (xAt X) d) := cE_q (vi := xVi X) (mw := xMw X) (pa := xPa X) h fN (by rw [nq 7 (by decide)]; exact h.2.2.1) (by rw [nq 4 (by decide)]) (by rw [nq 4 (by decide)]) ⟨by rw [nq 4 (by decide)]; exact h.2.2.2.1.2.2.1, by rw [nq 4 (by decide)]; exact h.2.2.2.1.2.2.2.1, by rw [nq 4 (by decide)]; exact h.2.2.2.1.2.2.2.2⟩ q3
    have lf : mI N 2 0 10 = d_fam c := by rw [nq 2 (by decide)]; exact l6
    rw [q1, bd_some, q2.1, p0, bd_some, x0, bd_some, lf, if_neg (by rw [f6]; decide), b2_some, nI_s, st_eq, e2]
    exact ⟨_, rfl, cQ_9 qN (by decide) (by rw [q2.2.1]; exact t0), Or.inr (Or.inl ⟨rfl, rfl, by rw [wI_j (fun z => absurd z.1 (by decide)), nq 4 (by decide)]; exact h10, P, ka, wa, cE_at xN, cRoom_N hR q2.2.1⟩)⟩
  rw [if_neg f6]
  by_cases f7 : d_fam c = 7
  · rw [if_pos f7, if_neg (by rw [f7]; decide), if_pos f7, p0, bd_some, b2_some, l4, htg f7, st_eq]
    exact ⟨_, rfl, mv.1, mv.2⟩
  rw [if_neg f7, if_neg f8]
  by_cases f9 : d_fam c = 9
  · rw [if_pos f9, if_neg (by rw [f9]; decide), if_neg f7, if_neg f6, if_neg (by rw [f9]; decide), if_neg (by rw [f9]; decide), p0, bd_some, b2_some, nI_s, st_eq]
    exact ⟨_, rfl, mv.1, mv.2⟩
  rw [if_neg f9]
  by_cases f10 : d_fam c = 10
  · rw [if_pos f10, if_pos f10, st_eq]
    exact ⟨_, rfl, cQ_4 hQ, Or.inr (Or.inr ⟨rfl, pI_same, _, rfl, ⟨P, ka, wa, cE_4 h, cRoom_N hR rfl⟩, hK, hW, fun i hi => (hKp i hi).2⟩)⟩
  rw [if_neg f10, if_neg f10, if_neg f7, if_neg f6, p0, bd_some]
  by_cases f1 : d_fam c = 1
  · rw [if_pos f1, if_pos f1, b2_some, show (2 : Int32) = nI 2 from rfl, nI_add, st_eq]
    exact ⟨_, rfl, mv.1, mv.2⟩
  · rw [if_neg f1, if_neg f1, b2_some, nI_s, st_eq]
    exact ⟨_, rfl, mv.1, mv.2⟩
end CT
