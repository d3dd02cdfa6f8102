/-! PURE: the reference goes the ways of a jump; an instruction whole. -/
/-- how it stands behind an instruction -/
def aft (n : Nat) (R1 : me_M) (r : Int32) (res : Int32 × xT) : Prop := (r = res.1 ∧ 0 < r ∧ rFin n R1 res.2) ∨ (r = 0 ∧ res.1 = 0 ∧ mI R1 1 0 70 = nI (xAt res.2) ∧ rX2 n R1 res.2) ∨ (r = 0 ∧ mI R1 1 0 70 = -1 ∧ ∃ Y σ a, res = x_end Y ∧ rX2 n R1 (x_mv Y σ a (xIds Y)) ∧ xKn Y ≤ 200 ∧ xWn Y ≤ 200)
section RJ
variable {p : Nat → Int64} {n nm B : Nat} {sec mk : Nat → Prop} {kb vb : Int32 → Int32} {X : xT} {c : Int64} {R R1 M M1 N : me_M}
theorem nar_b1 {P : Prop} : vp_nar .boolean (b1 P) = b1 P := by
  by_cases h : P
  · rw [b1_t h]; decide
  · rw [b1_f h]; decide
/-- one more waits -/
theorem rpush (hX : rX2 n M X) (hW : xWn X < 200) {bh : Nat} {g wb : Nat → Nat} {C : Nat → Nat → Prop} (hC : rCh M X bh g wb C) {τ : sT} {t : Nat} (hr : e75 (rv M (201 + xWn X)) τ) {mw : Int32} (hm : mw = nI (if xWn X + 1 ≤ xMw X then xMw X else xWn X + 1)) : gy M (wI (wI (wI (wI M 13 13 (xWn X) (nI t)) 13 14 (xWn X) (nI bh)) 1 0 62 (nI (xWn X + 1))) 1 0 24 mw) ∧ rX2 n (wI (wI (wI (wI M 13 13 (xWn X) (nI t)) 13 14 (xWn X) (nI bh)) 1 0 62 (nI (xWn X + 1))) 1 0 24 mw) (x_push X τ t) := by
  obtain ⟨W, hWd⟩ : ∃ W, W = xWn X := ⟨_, rfl⟩
  obtain ⟨N1, hN1⟩ : ∃ N1, N1 = wI M 13 13 W (nI t) := ⟨_, rfl⟩
  obtain ⟨N2, hN2⟩ : ∃ N2, N2 = wI N1 13 14 W (nI bh) := ⟨_, rfl⟩
  obtain ⟨N3, hN3⟩ : ∃ N3, N3 = wI N2 1 0 62 (nI (W + 1)) := ⟨_, rfl⟩
  obtain ⟨N4, hN4⟩ : ∃ N4, N4 = wI N3 1 0 24 mw := ⟨_, rfl⟩
  rw [← hWd] at hW hr hm ⊢
  rw [← hN1, ← hN2, ← hN3, ← hN4]
  have y4 : gy M N4 := by
    rw [hN4, hN3, hN2, hN1]
    exact gf_trans (gf_I (Or.inr (Or.inl ⟨rfl, by decide, by decide⟩))) (gf_trans (gf_I (Or.inr (Or.inl ⟨rfl, by decide, by decide⟩))) (gf_trans (gf_I (Or.inr (Or.inr (Or.inr ⟨rfl, rfl, by omega⟩)))) (gf_I (Or.inr (Or.inr (Or.inr ⟨rfl, rfl, by omega⟩))))))
  have r4 : ∀ r, rv N4 r = rv M r := fun r => by rw [hN4, rv_w n1 (by decide), hN3, rv_w n1 (by decide), hN2, rv_w (n13 (by decide)) (by decide), hN1, rv_w (n13 (by decide)) (by decide)]
  have e1 : ∀ f, ¬ f = 62 → ¬ f = 24 → mI N4 1 0 f = mI M 1 0 f := fun f a b => by rw [hN4, pI_place b, hN3, pI_place a, hN2, wI_j (by omega), hN1, wI_j (by omega)]
  have ej : ∀ j f, ¬ (f = W ∧ (j = 13 ∨ j = 14)) → mI N4 13 j f = mI M 13 j f := fun j f a => by rw [hN4, wI_j (by omega), hN3, wI_j (by omega), hN2, pI_I, if_neg (fun z => a ⟨z.2.2, Or.inr z.2.1⟩), hN1, pI_I, if_neg (fun z => a ⟨z.2.2, Or.inl z.2.1⟩)]
  have e15 : ∀ j f, mI N4 15 j f = mI M 15 j f := fun j f => by rw [hN4, wI_j (by omega), hN3, wI_j (by omega), hN2, wI_j (by omega), hN1, wI_j (by omega)]
  have e16 : ∀ j f, mL N4 16 j f = mL M 16 j f := fun j f => by rw [hN4, pL_I, hN3, pL_I, hN2, pL_I, hN1, pL_I]
  have e62 : mI N4 1 0 62 = nI (W + 1) := by rw [hN4, pI_place (by decide), hN3, pI_same]
  have e24 : mI N4 1 0 24 = mw := by rw [hN4, pI_same]
  have e13 : mI N4 13 13 W = nI t := by rw [hN4, wI_j (by omega), hN3, wI_j (by omega), hN2, wI_j (by omega), hN1, pI_same]
  have e14 : mI N4 13 14 W = nI bh := by rw [hN4, wI_j (by omega), hN3, wI_j (by omega), hN2, pI_same]
  refine ⟨y4, ?_⟩
  obtain ⟨h1, h2, h3, h4, h5, _⟩ := hX
  obtain ⟨c1, c2, c3, c4, c5, c6, c7, c8⟩ := hC
  obtain ⟨m1, m2, m3, m4, m5⟩ := h3
  rw [← hWd] at c4 c7 c8
  have hk : x_push X τ t = (xNow X, xAt X, xIds X, xKn X, xKp X, W + 1, fup (xWt X) W (τ, t), xVi X, (if W + 1 ≤ xMw X then xMw X else W + 1), xPa X, xFa X) := by
    unfold x_push
    rw [← hWd]
  rw [hk]
  refine ⟨⟨?_, ?_, ?_⟩, ?_, ⟨?_, ?_, ?_, ?_, ?_⟩, ⟨?_, ?_⟩, ?_, ?_⟩
  · rw [r4]; exact h1.1
  · intro i hi; rw [r4]; exact h1.2.1 i hi
  · intro i hi
    have hi2 : i < W + 1 := hi
    show e75 (rv N4 (201 + i)) (fup (xWt X) W (τ, t) i).1
    rw [r4]
    by_cases e : i = W
    · rw [e, fup_s]; exact hr
    · rw [fup_o e]; exact h1.2.2 i (by omega)
  · rw [e1 59 (by decide) (by decide)]; exact h2
  · rw [e1 23 (by decide) (by decide)]; exact m1
  · exact e62
  · rw [e1 22 (by decide) (by decide)]; exact m3
  · rw [e24]; exact hm
  · rw [e1 25 (by decide) (by decide)]; exact m5
  · intro i hi; rw [ej 11 _ (by omega)]; exact h4.1 i hi
  · intro i hi
    have hi2 : i < W + 1 := hi
    show mI N4 13 13 i = nI (fup (xWt X) W (τ, t) i).2
    by_cases e : i = W
    · rw [e, fup_s, e13]
    · rw [fup_o e, ej 13 _ (by omega)]; exact h4.2 i (by omega)
  · intro s hs
    rw [ej 4 _ (by omega), ej 5 _ (by omega), e15, e15, e16]
    exact h5 s hs
  · refine ⟨bh, g, fup wb W bh, C, by rw [e1 65 (by decide) (by decide)]; exact c1, c2, ?_, ?_, c5, c6, ?_, ?_⟩
    · intro k a b; rw [ej 12 _ (by omega)]; exact c3 k a b
    · intro w hw
      have hw2 : w < W + 1 := hw
      by_cases e : w = W
      · rw [e, fup_s, e14]; exact ⟨rfl, c2⟩
      · rw [fup_o e, ej 14 _ (by omega)]; exact c4 w (by omega)
    · intro w i hw hi
      have hw2 : w < W + 1 := hw
      by_cases e : w = W
      · rw [e, fup_s, c6 i hi]
        exact ⟨fun z => ⟨z, c8 i hi z⟩, fun z => z.1⟩
      · rw [fup_o e]; exact c7 w i (by omega) hi
    · intro i hi z
      have : (xKp X i).2.2.2 ≤ W := c8 i hi z
      show (xKp X i).2.2.2 ≤ W + 1
      omega
/-- the bits of the ways -/
theorem wz_1 : ∀ k, k < 4 → ((nI k &&& 1) = 1 ↔ k % 2 = 1) ∧ ((nI k &&& 2) = 2 ↔ 2 ≤ k) := by decide
theorem way_fac {N : me_M} {s : Nat} {F : xF} (hs : s < n) (h : rFac n N F) {P Q : Prop} : gw N (wI (wI N 15 1 s (b1 (F.2.1 s ∨ P))) 15 2 s (b1 (F.2.2.1 s ∨ Q))) ∧ rFac n (wI (wI N 15 1 s (b1 (F.2.1 s ∨ P))) 15 2 s (b1 (F.2.2.1 s ∨ Q))) (f_way F s P Q) := by
  refine ⟨gf_trans (gf_I (Or.inr (Or.inl ⟨rfl, Or.inl rfl⟩))) (gf_I (Or.inr (Or.inl ⟨rfl, Or.inr rfl⟩))), ?_⟩
  intro q hq
  obtain ⟨a1, a2, a3, a4, a5⟩ := h q hq
  show mI (wI (wI N 15 1 s (b1 (F.2.1 s ∨ P))) 15 2 s (b1 (F.2.2.1 s ∨ Q))) 13 4 q = F.1 q ∧ mI (wI (wI N 15 1 s (b1 (F.2.1 s ∨ P))) 15 2 s (b1 (F.2.2.1 s ∨ Q))) 15 1 q = b1 (fup F.2.1 s (F.2.1 s ∨ P) q) ∧ mI (wI (wI N 15 1 s (b1 (F.2.1 s ∨ P))) 15 2 s (b1 (F.2.2.1 s ∨ Q))) 15 2 q = b1 (fup F.2.2.1 s (F.2.2.1 s ∨ Q) q) ∧ mI (wI (wI N 15 1 s (b1 (F.2.1 s ∨ P))) 15 2 s (b1 (F.2.2.1 s ∨ Q))) 13 5 q = F.2.2.2.1 q ∧ (F.2.2.2.1 q = 1 → mL N 16 3 q = F.2.2.2.2 q)
  refine ⟨by rw [wI_j (by decide), wI_j (by decide)]; exact a1, ?_, ?_, by rw [wI_j (by decide), wI_j (by decide)]; exact a4, a5⟩
  · rw [wI_j (by decide)]
    by_cases e : q = s
    · rw [e, fup_s, pI_same]
    · rw [fup_o e, pI_place e]; exact a2
  · by_cases e : q = s
    · rw [e, fup_s, pI_same]
    · rw [fup_o e, pI_place e, wI_j (by decide)]; exact a3
theorem eO_s {a b : Option sT} (h : eO a b) : a.isSome = b.isSome := by
  cases a <;> cases b
  · rfl
  · exact h.elim
  · exact h.elim
  · rfl
theorem eO_r {a b : Option sT} (h : eO a b) {ρ : sT} (k : ∀ τ, a = some τ → ∀ i, i < 75 → ρ i = τ i) : ∀ τ, b = some τ → ∀ i, i < 75 → ρ i = τ i := by
  intro τ e i hi
  cases a with
  | none => rw [e] at h; exact h.elim
  | some σ =>
    rw [e] at h
    exact (k σ rfl i hi).trans (h i hi)
theorem eO_n {a b : Option sT} (h : eO a b) (e : b = none) : a = none := by
  cases a with
  | none => rfl
  | some σ => rw [e] at h; exact h.elim
theorem rrP_e {o o2 : sG} {w : Nat} {q : Int32} (e : eG o o2) (h : rrP N w o q) : rrP N w o2 q := by
  cases o with
  | error f =>
    cases o2 with
    | error g => rw [← show f = g from e]; exact h
    | ok q => exact e.elim
  | ok a =>
    cases o2 with
    | error g => exact e.elim
    | ok b =>
      obtain ⟨e1, e2⟩ := e
      obtain ⟨h1, h2, h3, h4⟩ := h
      refine ⟨h1, ?_, fun z => ?_, fun z => ?_⟩
      · rw [← eO_s e1, ← eO_s e2]; exact h2
      · exact ⟨eO_r e1 (h3 z).1, eO_r e2 (h3 z).2⟩
      · exact ⟨fun τ t1 t2 => eO_r e1 (fun σ s1 => (h4 z).1 σ s1 (eO_n e2 t2)) τ t1, fun τ t1 t2 => eO_r e2 (fun σ s1 => (h4 z).2 σ s1 (eO_n e1 t2)) τ t1⟩
theorem jrow {w r : Nat} (h : rJ (jS w) (jT w) jO M M1) (h1 : 1 ≤ r) (h2 : r < 201 + w) (h3 : r ≤ 400) : e75 (rv M1 r) (rv M r) := rJ_rv h (fun f z => by
  have := z.1
  have := z.2
  intro q
  rcases q with q | q | q
  · omega
  · omega
  · have := q.2.1
    omega) (fun f z => by
  have := z.1
  have := z.2
  intro q
  have := q.2.1
  omega)
/-- the ways are written down -/
theorem rway (hN : ps_M N) {s : Nat} (hs : s < n) (n2 : n ≤ 2000) {F : xF} (hF : rFac n N F) {P Q : Prop} {k : Nat} (hk : k < 4) (h68 : mI N 1 0 68 = nI k) (hP : P ↔ k % 2 = 1) (hQ : Q ↔ 2 ≤ k) {t : Int32} : (if (mI N 15 1 s) = 0 then (if ((mI N 1 0 68) &&& 1) = 1 then f_M_jump_b55 0 (nI s) N t (nI s) 1 else f_M_jump_b60 0 (nI s) N t (0 : Int32) (nI s) 1) else f_M_jump_b55 0 (nI s) N t (nI s) 1) = f_M_jump_b90 0 (wI N 15 1 s (b1 (F.2.1 s ∨ P))) t (b1 (F.2.2.1 s ∨ Q)) (nI s) 2 := by
  obtain ⟨_, a2, a3, _⟩ := hF s hs
  have step : ∀ v : Prop, f_M_jump_b60 0 (nI s) N t (b1 v) (nI s) 1 = f_M_jump_b90 0 (wI N 15 1 s (b1 v)) t (b1 (F.2.2.1 s ∨ Q)) (nI s) 2 := by
    intro v
    unfold f_M_jump_b60
    rw [rz_15_1 hN, gd_pos (ix_ok (by omega) (by decide)), nI_tn (by omega), nar_b1, st_eq, rs_29 hN, bd_some, rz_15_2 hN, gd_pos (ix_t (by omega) (by decide)), wI_j (by decide), wI_j (by decide), a3, h68]
    unfold f_M_jump_b85
    by_cases f : F.2.2.1 s
    · rw [if_neg (b1_n0 f), b1_t (Or.inl f)]
    · rw [if_pos (b1_f f)]
      by_cases q : 2 ≤ k
      · rw [if_pos (((wz_1 k hk).2).mpr q), b1_t (Or.inr (hQ.mpr q))]
      · rw [if_neg (fun z => q (((wz_1 k hk).2).mp z)), b1_f (show ¬ (F.2.2.1 s ∨ Q) from fun z => z.elim f (fun y => q (hQ.mp y)))]
  rw [a2, h68]
  unfold f_M_jump_b55
  by_cases g : F.2.1 s
  · rw [if_neg (b1_n0 g), ← step, b1_t (Or.inl g)]
  · rw [if_pos (b1_f g)]
    by_cases q : k % 2 = 1
    · rw [if_pos (((wz_1 k hk).1).mpr q), ← step, b1_t (Or.inr (hP.mpr q))]
    · rw [if_neg (fun z => q (((wz_1 k hk).1).mp z)), ← step, b1_f (fun z => z.elim g (fun y => q (hP.mp y)))]
theorem rjump (hQ : rQ p n mk nm kb vb R) (hX : rX2 n R X) (hF : pF p n sec nm) (hO : x_ok n sec nm B X) (hc : p (xAt X) = c) (f8 : d_fam c = 8) (h70 : mI R 1 0 70 = nI (xAt X + 1)) : ∃ R1 r, f_M_jump R 0 (nI (xAt X)) = some (R1, r) ∧ gy R R1 ∧ kv R1 ∧ aft n R1 r (x_do p kb vb X) := by
  obtain ⟨ha, hsec, hg, hK, hW, _, _, hMw, _⟩ := hO
  obtain ⟨k0, k1, k2, k3, k4, k5, k6⟩ := hF.2.2.2 (xAt X) ha hsec
  rw [hc] at k1 k2 k4
  have n2 := hQ.2.2.2.1
  obtain ⟨hR, hk, hst, _, hp, hm⟩ := hQ
  have e0 := hX.1.1
  have rm : s_rm (rv R 0) := rm_e (e75_symm e0) (gd_rm hg)
  obtain ⟨t1, t2, t3⟩ := k4 (Or.inr f8)
  obtain ⟨N, q, q1, q2, q3, q4, q5⟩ := rrel hR hk rm k1 k2 f8 hW hX.2.2.1.2.1
  have zN : gz R N := rJ_z q2 (fun f z => by have : f = 68 := z; omega)
  have hN := gf_ps zN hR
  unfold f_M_jump x_do
  rw [rs_13 hR, bd_some, rz_16_0 hR, gd_pos (ix_ok (by omega) (by decide)), nI_tn (by omega), hp _ ha, hc, q1, b2_some]
  have bad : ∀ A : Option (me_M × Int32), 0 < q → (if q ≤ 0 then A else some (N, q)) = some (N, q) := by
    intro A z
    rw [if_neg (fun y => by
      rw [Int32.lt_iff_toInt_lt] at z
      rw [Int32.le_iff_toInt_le] at y
      omega)]
  by_cases u : s_unr c (xNow X)
  · have u2 := (unr_e e0 k1 k2).mpr u
    rw [bad _ (by rw [q4 u2]; decide), ic_t u]
    exact ⟨N, q, rfl, gz_y zN, q3, Or.inl ⟨q4 u2, by rw [q4 u2]; decide, fin_z hX zN⟩⟩
  rw [ic_f u, if_pos f8]
  have k := rrP_e (rel_e e0 k1 k2) (q5 (fun z => u ((unr_e e0 k1 k2).mp z)))
  have eP1 := rel_eP (c := c) (σ := xNow X)
  cases o : s_rel c (xNow X) with
  | error f =>
    rw [o] at k eP1
    have er : q = f := k
    rw [bad _ (by rw [er]; exact eP1)]
    exact ⟨N, q, rfl, gz_y zN, q3, Or.inl ⟨er, by rw [er]; exact eP1, fin_z hX zN⟩⟩
  | ok w =>
    rw [o] at k
    obtain ⟨g, l⟩ := w
    obtain ⟨k1', k68, k3', k4'⟩ := k
    have mk2 : ∀ (a b : Option sT), (if a.isSome then 1 else 0) + (if b.isSome then 2 else 0) < 4 ∧ ((a.isSome = true) ↔ ((if a.isSome then 1 else 0) + (if b.isSome then 2 else 0)) % 2 = 1) ∧ ((b.isSome = true) ↔ 2 ≤ ((if a.isSome then 1 else 0) + (if b.isSome then 2 else 0))) := by
      intro a b
      cases a <;> cases b <;> simp
    obtain ⟨b1', b2', b3'⟩ := mk2 g l
    have e62 : mI N 1 0 62 = nI (xWn X) := by rw [gz_1 zN (by decide)]; exact hX.2.2.1.2.1
    rw [k1', if_pos (by decide), gz_16 zN (by decide), hp _ ha, hc, r_off, bd_some, st_eq, t3, rs_28 hR, bd_some, rz_15_1 hR, gd_pos (ix_t (by omega) (by decide)), rway hN ha n2 (fac_z zN hX.2.2.2.2.1) b1' k68 b2' b3']
    obtain ⟨F, hFd⟩ : ∃ F, F = f_way (xFa X) (xAt X) (g.isSome = true) (l.isSome = true) := ⟨_, rfl⟩
    obtain ⟨w1, w2⟩ := way_fac (P := g.isSome = true) (Q := l.isSome = true) ha (fac_z zN hX.2.2.2.2.1)
    unfold f_M_jump_b90
    rw [pZ_I, rz_15_2 hN, gd_pos (ix_ok (by omega) (by decide)), nI_tn (by omega), nar_b1, st_eq]
    obtain ⟨N2, hN2⟩ : ∃ N2, N2 = wI (wI N 15 1 (xAt X) (b1 ((xFa X).2.1 (xAt X) ∨ g.isSome = true))) 15 2 (xAt X) (b1 ((xFa X).2.2.1 (xAt X) ∨ l.isSome = true)) := ⟨_, rfl⟩
    rw [← hN2] at w1 w2 ⊢
    rw [← hFd] at w2
    have kN2 := gw_kv w1 q3
    have pN2 := gf_ps w1 hN
    have i1 : ∀ f, mI N2 1 0 f = mI N 1 0 f := fun f => by rw [hN2, wI_j (by decide), wI_j (by decide)]
    have y2 : gy R N2 := gf_trans (gz_y zN) (gw_y w1)
    have n70 : mI N2 1 0 70 = nI (xAt X + 1) := by rw [i1, rJ_1 q2 (by decide)]; exact h70
    have n59 : mI N 1 0 59 = xIds X := by rw [rJ_1 q2 (by decide)]; exact hX.2.1
    have r2 : ∀ r, rv N2 r = rv N r := fun r => gw_rv w1
    -- the state with what was found of the jump, and any row 0
    have base : ∀ (σ : sT) (a : Nat), e75 (rv N 0) σ → rX2 n N2 (x_mv (x_fac X F) σ a (xIds X)) := by
      intro σ a h0
      have := rX2_z (a := a) hX zN hK hW (fun r x y => jrow q2 x y (by omega)) h0 n59
      exact rX2_w (a := a) this w1 ⟨by rw [i1]; exact this.2.2.1.2.2.1, by rw [i1]; exact this.2.2.1.2.2.2.1, by rw [i1]; exact this.2.2.1.2.2.2.2⟩ w2
    show ∃ R1 r, _ ∧ gy R R1 ∧ kv R1 ∧ aft n R1 r (x_part (x_fac X (f_way (xFa X) (xAt X) (g.isSome = true) (l.isSome = true))) c g l)
    rw [← hFd, i1, i1, k68, e62]
    cases g with
    | none =>
      cases l with
      | none =>
        rw [show nI ((if (none : Option sT).isSome then 1 else 0) + (if (none : Option sT).isSome then 2 else 0)) = 0 from rfl, if_neg (by decide), if_neg (by decide), if_pos rfl, st_eq]
        exact ⟨_, _, rfl, gf_trans y2 (gw_y gw_70), kv_w n1 kN2, Or.inr (Or.inr ⟨rfl, pI_same, x_fac X F, rv N 0, xAt X, rfl, rX2_70 (base _ _ e75_refl), hK, hW⟩)⟩
      | some b =>
        rw [show nI ((if (none : Option sT).isSome then 1 else 0) + (if (some b).isSome then 2 else 0)) = 2 from rfl, if_neg (by decide), if_neg (by decide), if_neg (by decide)]
        have hb : e75 (rv N 0) b := by
          by_cases w : xWn X = 200
          · exact (k4' w).2 b rfl rfl
          · exact (k3' (by omega)).2 b rfl
        exact ⟨_, _, rfl, y2, kN2, Or.inr (Or.inl ⟨rfl, rfl, n70, base _ _ hb⟩)⟩
    | some a =>
      cases l with
      | none =>
        rw [show nI ((if (some a).isSome then 1 else 0) + (if (none : Option sT).isSome then 2 else 0)) = 1 from rfl, if_neg (by decide), if_pos rfl]
        by_cases w : xWn X = 200
        · rw [if_pos (show (200 : Int32) ≤ nI (xWn X) by rw [w]; decide), st_eq]
          exact ⟨_, _, rfl, gf_trans y2 (gw_y gw_70), kv_w n1 kN2, Or.inr (Or.inl ⟨rfl, rfl, pI_same, rX2_70 (base _ _ ((k4' w).1 a rfl rfl))⟩)⟩
        · rw [if_neg (show ¬ (200 : Int32) ≤ nI (xWn X) from fun z => by have := (nI_lei (a := 200) (by decide) (by omega)).mp z; omega), show (201 : Int32) = nI 201 from rfl, nI_add]
          obtain ⟨N4, c1, c2, c3, c4⟩ := rcopy (M := N2) (a := 201 + xWn X) (b := 0) pN2 kN2 (by omega) (by decide) (by omega)
          rw [show f_M_copyState N2 0 (nI (201 + xWn X)) (0 : Int32) = some N4 from c1, bd_some, st_eq]
          have b4 := rX2_z (σ := a) (a := d_tg c (xAt X)) (d := xIds X) (base _ (d_tg c (xAt X)) e75_refl) (rf_z c2) hK hW (fun r x y => rf_row c2 (by omega)) (by
            refine e75_trans c4 ?_
            rw [r2]
            exact (k3' (by omega)).1 a rfl) (by rw [rf_59 c2, i1]; exact n59)
          exact ⟨_, _, rfl, gf_trans y2 (gf_trans (gz_y (rf_z c2)) (gw_y gw_70)), kv_w n1 c3, Or.inr (Or.inl ⟨rfl, rfl, pI_same, rX2_70 b4⟩)⟩
      | some b =>
        rw [show nI ((if (some a).isSome then 1 else 0) + (if (some b).isSome then 2 else 0)) = 3 from rfl, if_pos rfl]
        show ∃ R1 r, _ ∧ gy R R1 ∧ kv R1 ∧ aft n R1 r (if xWn X = 200 then (21, x_fac X F) else (0, x_mv (x_push (x_fac X F) a (d_tg c (xAt X))) b (xAt X + 1) (xIds X)))
        by_cases w : xWn X = 200
        · rw [if_pos (show nI (xWn X) = 200 by rw [w]; rfl), if_pos w]
          have := base (rv N 0) (xAt X) e75_refl
          exact ⟨_, _, rfl, y2, kN2, Or.inl ⟨rfl, by decide, this.2.2.1, w2⟩⟩
        · rw [if_neg (show ¬ nI (xWn X) = 200 from fun z => w (nI_inj (b := 200) (by omega) (by decide) z)), if_neg w]
          have bX := base b (xAt X) ((k3' (by omega)).2 b rfl)
          obtain ⟨bh, gg, wb, C, hC⟩ := bX.2.2.2.2.2
          have e65 : mI N2 1 0 65 = nI bh := hC.1
          have e24 : mI N2 1 0 24 = nI (xMw X) := bX.2.2.1.2.2.2.1
          have e62b : mI N2 1 0 62 = nI (xWn X) := (i1 62).trans e62
          rw [pR_I, rs_63 hN, bd_some, rz_13_13 hN, gd_pos (ix_ok (by omega) (by decide)), nI_tn (by omega), st_eq, rs_64 hN, bd_some]
          obtain ⟨L1, hL1⟩ : ∃ L1, L1 = wI N2 13 13 (xWn X) (nI (d_tg c (xAt X))) := ⟨_, rfl⟩
          rw [← hL1]
          have l62 : mI L1 1 0 62 = nI (xWn X) := by rw [hL1, wI_j (by decide)]; exact e62b
          have l65 : mI L1 1 0 65 = nI bh := by rw [hL1, wI_j (by decide)]; exact e65
          rw [l62, rz_13_14 hN, gd_pos (ix_ok (by omega) (by decide)), nI_tn (by omega), l65, st_eq]
          obtain ⟨L2, hL2⟩ : ∃ L2, L2 = wI L1 13 14 (xWn X) (nI bh) := ⟨_, rfl⟩
          rw [← hL2]
          have m62 : mI L2 1 0 62 = nI (xWn X) := by rw [hL2, wI_j (by decide)]; exact l62
          rw [m62, st_eq, nI_s]
          obtain ⟨L3, hL3⟩ : ∃ L3, L3 = wI L2 1 0 62 (nI (xWn X + 1)) := ⟨_, rfl⟩
          rw [← hL3]
          have o62 : mI L3 1 0 62 = nI (xWn X + 1) := by rw [hL3, pI_same]
          have o24 : mI L3 1 0 24 = nI (xMw X) := by rw [hL3, pI_place (by decide), hL2, wI_j (by decide), hL1, wI_j (by decide)]; exact e24
          rw [o62, o24]
          have mw200 : xMw X ≤ 200 := hMw
          have hrow : e75 (rv N2 (201 + xWn X)) a := by rw [r2]; exact (k3' (by omega)).1 a rfl
          have fin : ∀ mw : Int32, mw = nI (if xWn X + 1 ≤ xMw X then xMw X else xWn X + 1) → ∃ R1 r, some (wI L3 1 0 24 mw, (0 : Int32)) = some (R1, r) ∧ gy R R1 ∧ kv R1 ∧ aft n R1 r (0, x_mv (x_push (x_fac X F) a (d_tg c (xAt X))) b (xAt X + 1) (xIds X)) := by
            intro mw hmw
            obtain ⟨v1, v2⟩ := rpush (τ := a) (t := d_tg c (xAt X)) (mw := mw) bX (by show xWn X < 200; omega) hC hrow hmw
            have v1' : gy N2 (wI L3 1 0 24 mw) := by rw [hL3, hL2, hL1]; exact v1
            have v2' : rX2 n (wI L3 1 0 24 mw) (x_push (x_mv (x_fac X F) b (xAt X) (xIds X)) a (d_tg c (xAt X))) := by rw [hL3, hL2, hL1]; exact v2
            refine ⟨_, _, rfl, gf_trans y2 v1', ?_, Or.inr (Or.inl ⟨rfl, rfl, ?_, v2'⟩)⟩
            · rw [hL3, hL2, hL1]; exact kv_w n1 (kv_w n1 (kv_w (n13 (by decide)) (kv_w (n13 (by decide)) kN2)))
            · rw [pI_place (by decide), hL3, pI_place (by decide), hL2, wI_j (by decide), hL1, wI_j (by decide)]; exact n70
          by_cases le : xWn X + 1 ≤ xMw X
          · rw [if_pos ((nI_lei (by omega) (by omega)).mpr le), st_eq]
            exact fin _ (by rw [if_pos le])
          · rw [if_neg (fun z => le ((nI_lei (by omega) (by omega)).mp z)), st_eq]
            exact fin _ (by rw [if_neg le])
end RJ
