/-! PURE: the reference does an instruction that is no relation. -/
/-- what is shown at the end -/
def rFin (n : Nat) (R : me_M) (X : xT) : Prop := rNum R X ∧ rFac n R (xFa X)
/-- facts and counts are changed -/
def vA (k j f : Nat) : Prop := (k = 13 ∧ (j = 4 ∨ j = 5)) ∨ (k = 15 ∧ (j = 1 ∨ j = 2)) ∨ (k = 1 ∧ j = 0 ∧ (f = 22 ∨ f = 24 ∨ f = 25 ∨ f = 68 ∨ f = 69 ∨ f = 70))
def vB (k j _f : Nat) : Prop := k = 16 ∧ j = 3
abbrev gw (M M1 : me_M) : Prop := gf vA vB M M1
section RO
variable {p : Nat → Int64} {n nm B : Nat} {sec mk : Nat → Prop} {kb vb : Int32 → Int32} {X : xT} {c : Int64} {R R1 M M1 N : me_M}
theorem gw_y (h : gw M M1) : gy M M1 := gf_mono h (fun k j f z => by
  rcases z with z | z | z
  · exact Or.inr (Or.inl ⟨z.1, by omega, by omega⟩)
  · exact Or.inr (Or.inr (Or.inl z))
  · refine Or.inr (Or.inr (Or.inr ⟨z.1, z.2.1, ?_⟩)); have := z.2.2; omega) (fun k j f z => ⟨z.1, Or.inl z.2⟩)
theorem gw_rv (g : gw M M1) {r : Nat} : rv M1 r = rv M r := by
  have e : ∀ k j x, (iA k j ∨ (k = 13 ∧ j = 10)) → mI M1 k j x = mI M k j x := fun k j x hk => g.2.2.2.1 k j x (by
    rintro (z | z | z)
    · rcases hk with q | q
      · rcases q with y | y
        · exact absurd (y.1.symm.trans z.1) (by decide)
        · omega
      · omega
    · rcases hk with q | q
      · rcases q with y | y
        · exact absurd (y.1.symm.trans z.1) (by decide)
        · exact absurd (y.1.symm.trans z.1) (by decide)
      · exact absurd (q.1.symm.trans z.1) (by decide)
    · rcases hk with q | q
      · rcases q with y | y
        · exact absurd (y.1.symm.trans z.1) (by decide)
        · exact absurd (y.1.symm.trans z.1) (by decide)
      · exact absurd (q.1.symm.trans z.1) (by decide))
  have eL : ∀ j x, 6 ≤ j → mL M1 16 j x = mL M 16 j x := fun j x hj => g.2.2.2.2 16 j x (fun z => by have := z.2; omega)
  funext i
  unfold rv it rg
  rw [e 14 8 _ (Or.inl iA0), e 13 6 _ (Or.inl iA6), e 13 7 _ (Or.inl iA7), e 13 8 _ (Or.inl iA8), e 13 9 _ (Or.inl iA9), e 13 10 _ (Or.inr ⟨rfl, rfl⟩), eL 6 _ (by decide), eL 7 _ (by decide), eL 8 _ (by decide), eL 9 _ (by decide), eL 10 _ (by decide), eL 11 _ (by decide)]
theorem gw_kv (g : gw M M1) (h : kv M) : kv M1 := kv_eq h (fun q => g.2.2.2.1 14 8 q (by
  rintro (z | z | z) <;> exact absurd z.1 (by decide)))
theorem gw_1 (g : gw M M1) {f : Nat} (h : ¬ (f = 22 ∨ f = 24 ∨ f = 25 ∨ f = 68 ∨ f = 69 ∨ f = 70)) : mI M1 1 0 f = mI M 1 0 f := g.2.2.2.1 1 0 f (by
  rintro (z | z | z)
  · exact absurd z.1 (by decide)
  · exact absurd z.1 (by decide)
  · exact h z.2.2)
theorem gw_13 (g : gw M M1) {j f : Nat} (h : 11 ≤ j) : mI M1 13 j f = mI M 13 j f := g.2.2.2.1 13 j f (by
  rintro (z | z | z)
  · omega
  · exact absurd z.1 (by decide)
  · exact absurd z.1 (by decide))
/-- facts and counts anew -/
theorem rX2_w (h : rX2 n M X) (g : gw M M1) {a vi mw pa : Nat} {F : xF} (hN : mI M1 1 0 22 = nI vi ∧ mI M1 1 0 24 = nI mw ∧ mI M1 1 0 25 = nI pa) (hF : rFac n M1 F) : rX2 n M1 (xNow X, a, xIds X, xKn X, xKp X, xWn X, xWt X, vi, mw, pa, F) := by
  obtain ⟨h1, h2, h3, h4, h5, h6⟩ := h
  refine ⟨⟨?_, ?_, ?_⟩, ?_, ⟨?_, ?_, hN⟩, ⟨?_, ?_⟩, hF, ?_⟩
  · rw [gw_rv g]; exact h1.1
  · intro i hi; rw [gw_rv g]; exact h1.2.1 i hi
  · intro i hi; rw [gw_rv g]; exact h1.2.2 i hi
  · rw [gw_1 g (by decide)]; exact h2
  · rw [gw_1 g (by decide)]; exact h3.1
  · rw [gw_1 g (by decide)]; exact h3.2.1
  · intro i hi; rw [gw_13 g (by decide)]; exact h4.1 i hi
  · intro i hi; rw [gw_13 g (by decide)]; exact h4.2 i hi
  · obtain ⟨bh, k, wb, C, c1, c2, c3, c4, c5⟩ := h6
    refine ⟨bh, k, wb, C, by rw [gw_1 g (by decide)]; exact c1, c2, fun q a b => ?_, fun w hw => ?_, c5⟩
    · rw [gw_13 g (by decide)]; exact c3 q a b
    · rw [gw_13 g (by decide)]; exact c4 w hw
/-- what an instruction does to the rows -/
theorem rG_z {S T : Nat → Prop} (h : rG S T M M1) : gz M M1 := rJ_z (O := fun f => f = 59) (rJ_G h rfl) (fun f z => Or.inl z)
theorem rG_rows (h : rG rX w64 M M1) {r : Nat} (h1 : 1 ≤ r) (h2 : r ≤ 400) : e75 (rv M1 r) (rv M r) := rJ_rv (O := fun f => f = 59) (rJ_G h rfl) (fun f z => by have := z.1; have := z.2; intro q; rcases q with q | q <;> omega) (fun f z => by have := z.1; have := z.2; intro q; have : f < 64 := q; omega)
theorem rX2_z (h : rX2 n M X) (g : gz M M1) (hK : xKn X ≤ 200) (hW : xWn X ≤ 200) (hr : ∀ r, 1 ≤ r → r < 201 + xWn X → e75 (rv M1 r) (rv M r)) {σ : sT} {a : Nat} {d : Int32} (h0 : e75 (rv M1 0) σ) (hd : mI M1 1 0 59 = d) : rX2 n M1 (x_mv X σ a d) := by
  obtain ⟨h1, h2, h3, h4, h5, h6⟩ := h
  refine ⟨⟨h0, ?_, ?_⟩, hd, num_z g h3, arr_z g h4, fac_z g h5, c_z g h6⟩
  · intro i hi
    have hi2 : i < xKn X := hi
    exact e75_trans (hr (i + 1) (by omega) (by omega)) (h1.2.1 i hi)
  · intro i hi
    have hi2 : i < xWn X := hi
    exact e75_trans (hr (201 + i) (by omega) (by omega)) (h1.2.2 i hi)
theorem rX2_i (h : rX2 n M X) (g : rG rX w64 M M1) (hK : xKn X ≤ 200) (hW : xWn X ≤ 200) {σ : sT} {a : Nat} {d : Int32} (h0 : e75 (rv M1 0) σ) (hd : mI M1 1 0 59 = d) : rX2 n M1 (x_mv X σ a d) := rX2_z h (rG_z g) hK hW (fun r a b => rG_rows g a (by omega)) h0 hd
theorem fin_z (h : rX2 n M X) (g : gz M M1) : rFin n M1 X := ⟨num_z g h.2.2.1, fac_z g h.2.2.2.2.1⟩
/-- the place that comes next is written -/
theorem gw_70 {v : Int32} : gw M (wI M 1 0 70 v) := gf_I (Or.inr (Or.inr ⟨rfl, rfl, by omega⟩))
theorem fac_1 {f : Nat} {v : Int32} {F : xF} (h : rFac n M F) : rFac n (wI M 1 0 f v) F := by
  intro s hs
  rw [wI_j (by omega), wI_j (by omega), wI_j (by omega), wI_j (by omega), pL_I]
  exact h s hs
theorem rX2_70 (h : rX2 n M X) {v : Int32} : rX2 n (wI M 1 0 70 v) X := rX2_w (a := xAt X) h gw_70 ⟨by rw [pI_place (by decide)]; exact h.2.2.1.2.2.1, by rw [pI_place (by decide)]; exact h.2.2.1.2.2.2.1, by rw [pI_place (by decide)]; exact h.2.2.1.2.2.2.2⟩ (fac_1 h.2.2.2.2.1)
theorem fin_70 (h : rFin n M X) {v : Int32} : rFin n (wI M 1 0 70 v) X := by
  obtain ⟨h1, h2⟩ := h
  refine ⟨?_, fac_1 h2⟩
  unfold rNum at h1 ⊢
  rw [pI_place (by decide), pI_place (by decide), pI_place (by decide), pI_place (by decide), pI_place (by decide)]
  exact h1
/-! an exact number or not -/
theorem rcomp_b83 (hN : ps_M N) {s t : Nat} (hs : s < 2000) (ht : t < 11) {y : Int32} : f_M_compute_b83 0 (nI s) N (nI t) y = some (wL (wI N 13 5 s (if y = 0 then 2 else 1)) 16 3 s (mL N 16 6 t), 0) := by
  unfold f_M_compute_b83
  rw [rs_30 hN, bd_some]
  by_cases g : y = 0
  · rw [if_pos g, if_pos g, rz_13_5 hN, gd_pos (ix_ok (by omega) (by decide)), nI_tn (by omega), st_eq, rs_31 hN, bd_some, rs_52 hN, bd_some, rz_16_6 hN, gd_pos (ix_ok (by omega) (by decide)), rz_16_3 hN, nI_tn (by omega), gd_pos (ix_t (by omega) (by decide)), st_eq]
    rfl
  · rw [if_neg g, if_neg g, rz_13_5 hN, gd_pos (ix_ok (by omega) (by decide)), nI_tn (by omega), st_eq, rs_31 hN, bd_some, rs_52 hN, bd_some, rz_16_6 hN, gd_pos (ix_ok (by omega) (by decide)), rz_16_3 hN, nI_tn (by omega), gd_pos (ix_t (by omega) (by decide)), st_eq]
    rfl
theorem rck_w {s : Nat} (hs : s < n) {Y : xT} (hX : rX2 n N Y) {v : Int32} {z : Int64} {x : sC} (hv : v = ic (cK x = 1 ∧ (cX x).2.1 = 0 ∧ ((xFa Y).2.2.2.1 s = 0 ∨ (xFa Y).2.2.2.1 s = 1 ∧ (xFa Y).2.2.2.2 s = (cX x).1)) 1 2) (hz : v = 1 → z = (cX x).1) : gw N (wL (wI N 13 5 s v) 16 3 s z) ∧ rX2 n (wL (wI N 13 5 s v) 16 3 s z) (x_fac Y (f_rck (xFa Y) s x)) := by
  have g : gw N (wL (wI N 13 5 s v) 16 3 s z) := gf_trans (gf_I (Or.inl ⟨rfl, Or.inr rfl⟩)) (gf_L ⟨rfl, rfl⟩)
  refine ⟨g, ?_⟩
  have e : ∀ f, mI (wL (wI N 13 5 s v) 16 3 s z) 1 0 f = mI N 1 0 f := fun f => by rw [pI_L, wI_j (by omega)]
  refine rX2_w (a := xAt Y) hX g ⟨by rw [e]; exact hX.2.2.1.2.2.1, by rw [e]; exact hX.2.2.1.2.2.2.1, by rw [e]; exact hX.2.2.1.2.2.2.2⟩ ?_
  intro q hq
  obtain ⟨a1, a2, a3, a4, a5⟩ := hX.2.2.2.2.1 q hq
  show mI (wL (wI N 13 5 s v) 16 3 s z) 13 4 q = (xFa Y).1 q ∧ mI (wL (wI N 13 5 s v) 16 3 s z) 15 1 q = b1 ((xFa Y).2.1 q) ∧ mI (wL (wI N 13 5 s v) 16 3 s z) 15 2 q = b1 ((xFa Y).2.2.1 q) ∧ mI (wL (wI N 13 5 s v) 16 3 s z) 13 5 q = fup (xFa Y).2.2.2.1 s (ic (cK x = 1 ∧ (cX x).2.1 = 0 ∧ ((xFa Y).2.2.2.1 s = 0 ∨ (xFa Y).2.2.2.1 s = 1 ∧ (xFa Y).2.2.2.2 s = (cX x).1)) 1 2) q ∧ (fup (xFa Y).2.2.2.1 s (ic (cK x = 1 ∧ (cX x).2.1 = 0 ∧ ((xFa Y).2.2.2.1 s = 0 ∨ (xFa Y).2.2.2.1 s = 1 ∧ (xFa Y).2.2.2.2 s = (cX x).1)) 1 2) q = 1 → mL (wL (wI N 13 5 s v) 16 3 s z) 16 3 q = fup (xFa Y).2.2.2.2 s (cX x).1 q)
  rw [← hv, pI_L, wI_j (by omega), wI_j (by omega), wI_j (by omega)]
  refine ⟨a1, a2, a3, ?_⟩
  by_cases e2 : q = s
  · rw [e2, fup_s, fup_s, pI_same, pL_same]
    exact ⟨rfl, hz⟩
  · rw [fup_o e2, fup_o e2, pI_place e2, pL_place e2, pL_I]
    exact ⟨a4, a5⟩
end RO
