/-! PURE: the reference updates and deletes. -/
section IRU
variable {nm : Nat} {tb : Nat → Prop} {kb vb : Int32 → Int32} {en : Nat → Nat} {W : tyU} {M N O : me_M} {i n m s A b : Nat} {key val : Nat → Int32}
theorem fr15_S (h : fr (fun k i => k = 15 ∧ i = 0) M N) (hS : rSh nm tb kb vb en M) : rSh nm tb kb vb en N := by
  unfold rSh at hS ⊢
  rw [h.1, h.2.2.1, h.2.2.2.1 13 0 (fun z => absurd z.1 (by decide)), h.2.2.2.1 13 1 (fun z => absurd z.1 (by decide)), h.2.2.2.1 13 2 (fun z => absurd z.1 (by decide)), h.2.2.2.1 13 3 (fun z => absurd z.1 (by decide))]
  exact hS
theorem cpy_s {f g : Nat → Int32} {B k x : Nat} : va_cpy f g 0 B (k + 1) x = if x = B + k then f k else va_cpy f g 0 B k x := by
  unfold va_cpy
  by_cases e : x = B + k
  · rw [if_pos e, if_pos (by omega), show 0 + (x - B) = k by omega]
  · rw [if_neg e]
    by_cases g : B ≤ x ∧ x < B + k
    · rw [if_pos g, if_pos (by omega)]
    · rw [if_neg g, if_neg (by omega)]
theorem ru128 (hS : rSh nm tb kb vb en M) (hn : m < nm) (hi : i < en m) (hB : ∀ b, b < kn vb m → isB (mI M 14 7 b)) : ∀ (k b fu : Nat) (N : me_M), b + k = kn vb m → k < fu → fr (fun k i => k = 14 ∧ i = 2) M N → (∀ x, mI N 14 2 x = va_cpy (mI M 14 7) (mI M 14 2) 0 (64 * (64 * m + i)) b x) → ∃ N2, f_M_update_l128 0 (nI m) fu N (nI i) (nI b) = some (N2, 0) ∧ fr (fun k i => k = 14 ∧ i = 2) M N2 ∧ mI N2 14 2 = va_cpy (mI M 14 7) (mI M 14 2) 0 (64 * (64 * m + i)) (kn vb m) := by
  intro k
  induction k with
  | zero =>
    intro b fu N e hf g hx
    obtain ⟨fu, rfl⟩ : ∃ f, fu = f + 1 := ⟨fu - 1, by omega⟩
    obtain ⟨⟨r5, r6, r7, r8, r9, r10, r11, r16, r17, r35, r36, r39, r43, r44, r45, r46⟩, ⟨y0, y1, y2', y3, y4', y5, y6, y7, y8, y9, y10, y11, y12, y13, y14, y15⟩, hm4, hmm⟩ := fr14_S g hS
    obtain ⟨m1, m2, m3, m4, m5, m6, m7, m8⟩ := hmm m hn
    have gm : ¬ (nI m < 0 ∨ 4 ≤ m) := fun z => z.elim (nI_ps (by omega)) (fun q => by omega)
    rw [f_M_update_l128, r7, bd_some, nI_tn (by omega), y2', gd_pos gm, m2, if_pos ((nI_lei (by omega) (by omega)).mpr (by omega))]
    rw [show b = kn vb m by omega] at hx
    exact ⟨N, rfl, g, funext hx⟩
  | succ k ih =>
    intro b fu N e hf g hx
    obtain ⟨fu, rfl⟩ : ∃ f, fu = f + 1 := ⟨fu - 1, by omega⟩
    obtain ⟨⟨r5, r6, r7, r8, r9, r10, r11, r16, r17, r35, r36, r39, r43, r44, r45, r46⟩, ⟨y0, y1, y2', y3, y4', y5, y6, y7, y8, y9, y10, y11, y12, y13, y14, y15⟩, hm4, hmm⟩ := fr14_S g hS
    obtain ⟨m1, m2, m3, m4, m5, m6, m7, m8⟩ := hmm m hn
    have gm : ¬ (nI m < 0 ∨ 4 ≤ m) := fun z => z.elim (nI_ps (by omega)) (fun q => by omega)
    have e7 : mI N 14 7 = mI M 14 7 := g.2.2.2.1 14 7 (fun z => absurd z.2 (by decide))
    rw [f_M_update_l128, r7, bd_some, nI_tn (by omega), y2', gd_pos gm, m2, if_neg (fun z => by have := (nI_lei (by omega) (by omega)).mp z; omega), r11, bd_some, r46, bd_some, nI_tn (by omega), y10, gd_pos (show ¬ (nI b < 0 ∨ 64 ≤ b) from fun z => z.elim (nI_ps (by omega)) (fun q => by omega)), ix_64, nI_tn (by omega), y5, gd_pos (show ¬ (nI (64 * (64 * m + i) + b) < 0 ∨ 16384 ≤ 64 * (64 * m + i) + b) from fun z => z.elim (nI_ps (by omega)) (fun q => by omega)), st_eq, nI_s, e7, nar_B (hB b (by omega))]
    refine ih (b + 1) fu _ (by omega) (by omega) (fr_trans g (fr_I ⟨rfl, rfl⟩)) (fun x => ?_)
    rw [cpy_s]
    by_cases ex : x = 64 * (64 * m + i) + b
    · rw [if_pos ex, ex, pI_same]
    · rw [if_neg ex, pI_place ex, hx x]
theorem ru88 (hS : rSh nm tb kb vb en M) (hn : m < nm) (hi : i < en m) (hK : ∀ b, b < kn kb m → isB (mI M 14 6 b)) (hB : ∀ b, b < kn vb m → isB (mI M 14 7 b)) : ∀ (k b fu : Nat) (N : me_M), b + k = kn kb m → k < fu → fr (fun k i => k = 14 ∧ i = 1) M N → (∀ x, mI N 14 1 x = va_cpy (mI M 14 6) (mI M 14 1) 0 (16 * (64 * m + i)) b x) → ∃ N2, f_M_update_l88 0 (nI m) fu N (nI i) (nI b) = some (N2, 0) ∧ fr (fun k i => k = 14 ∧ (i = 1 ∨ i = 2)) M N2 ∧ mI N2 14 1 = va_cpy (mI M 14 6) (mI M 14 1) 0 (16 * (64 * m + i)) (kn kb m) ∧ mI N2 14 2 = va_cpy (mI M 14 7) (mI M 14 2) 0 (64 * (64 * m + i)) (kn vb m) := by
  intro k
  induction k with
  | zero =>
    intro b fu N e hf g hx
    obtain ⟨fu, rfl⟩ : ∃ f, fu = f + 1 := ⟨fu - 1, by omega⟩
    have hSN := fr14_S g hS
    have hSN2 := hSN
    obtain ⟨⟨r5, r6, r7, r8, r9, r10, r11, r16, r17, r35, r36, r39, r43, r44, r45, r46⟩, ⟨y0, y1, y2', y3, y4', y5, y6, y7, y8, y9, y10, y11, y12, y13, y14, y15⟩, hm4, hmm⟩ := hSN2
    obtain ⟨m1, m2, m3, m4, m5, m6, m7, m8⟩ := hmm m hn
    have gm : ¬ (nI m < 0 ∨ 4 ≤ m) := fun z => z.elim (nI_ps (by omega)) (fun q => by omega)
    have e7 : mI N 14 7 = mI M 14 7 := g.2.2.2.1 14 7 (fun z => absurd z.2 (by decide))
    have e2 : mI N 14 2 = mI M 14 2 := g.2.2.2.1 14 2 (fun z => absurd z.2 (by decide))
    rw [f_M_update_l88, r6, bd_some, nI_tn (by omega), y1, gd_pos gm, m1, if_pos ((nI_lei (by omega) (by omega)).mpr (by omega))]
    rw [show b = kn kb m by omega] at hx
    obtain ⟨N2, n1, n2, n3⟩ := ru128 hSN hn hi (by rw [e7]; exact hB) (kn vb m) 0 fuel N (by omega) (by unfold fuel; omega) fr_refl (fun x => by unfold va_cpy; rw [if_neg (by omega)])
    rw [e7, e2] at n3
    refine ⟨N2, n1, fr_trans (fr_mono g (fun k j z => ⟨z.1, Or.inl z.2⟩)) (fr_mono n2 (fun k j z => ⟨z.1, Or.inr z.2⟩)), ?_, n3⟩
    rw [n2.2.2.2.1 14 1 (fun z => absurd z.2 (by decide))]
    exact funext hx
  | succ k ih =>
    intro b fu N e hf g hx
    obtain ⟨fu, rfl⟩ : ∃ f, fu = f + 1 := ⟨fu - 1, by omega⟩
    obtain ⟨⟨r5, r6, r7, r8, r9, r10, r11, r16, r17, r35, r36, r39, r43, r44, r45, r46⟩, ⟨y0, y1, y2', y3, y4', y5, y6, y7, y8, y9, y10, y11, y12, y13, y14, y15⟩, hm4, hmm⟩ := fr14_S g hS
    obtain ⟨m1, m2, m3, m4, m5, m6, m7, m8⟩ := hmm m hn
    have gm : ¬ (nI m < 0 ∨ 4 ≤ m) := fun z => z.elim (nI_ps (by omega)) (fun q => by omega)
    have e6 : mI N 14 6 = mI M 14 6 := g.2.2.2.1 14 6 (fun z => absurd z.2 (by decide))
    rw [f_M_update_l88, r6, bd_some, nI_tn (by omega), y1, gd_pos gm, m1, if_neg (fun z => by have := (nI_lei (by omega) (by omega)).mp z; omega), r10, bd_some, r45, bd_some, nI_tn (by omega), y9, gd_pos (show ¬ (nI b < 0 ∨ 64 ≤ b) from fun z => z.elim (nI_ps (by omega)) (fun q => by omega)), ix_16, nI_tn (by omega), y4', gd_pos (show ¬ (nI (16 * (64 * m + i) + b) < 0 ∨ 4096 ≤ 16 * (64 * m + i) + b) from fun z => z.elim (nI_ps (by omega)) (fun q => by omega)), st_eq, nI_s, e6, nar_B (hK b (by omega))]
    refine ih (b + 1) fu _ (by omega) (by omega) (fr_trans g (fr_I ⟨rfl, rfl⟩)) (fun x => ?_)
    rw [cpy_s]
    by_cases ex : x = 16 * (64 * m + i) + b
    · rw [if_pos ex, ex, pI_same]
    · rw [if_neg ex, pI_place ex, hx x]
theorem ru68 (hS : rSh nm tb kb vb en M) (hn : m < nm) (hi : i < en m) (hK : ∀ b, b < kn kb m → isB (mI M 14 6 b)) (hB : ∀ b, b < kn vb m → isB (mI M 14 7 b)) : ∃ N, f_M_update_b68 0 (nI m) M (nI i) = some (N, 0) ∧ fr (fun k j => (k = 14 ∧ (j = 1 ∨ j = 2)) ∨ (k = 15 ∧ j = 0)) M N ∧ mI N 15 0 = fup (mI M 15 0) (64 * m + i) 1 ∧ mI N 14 1 = va_cpy (mI M 14 6) (mI M 14 1) 0 (16 * (64 * m + i)) (kn kb m) ∧ mI N 14 2 = va_cpy (mI M 14 7) (mI M 14 2) 0 (64 * (64 * m + i)) (kn vb m) := by
  have hS2 := hS
  obtain ⟨⟨r5, r6, r7, r8, r9, r10, r11, r16, r17, r35, r36, r39, r43, r44, r45, r46⟩, ⟨y0, y1, y2', y3, y4', y5, y6, y7, y8, y9, y10, y11, y12, y13, y14, y15⟩, hm4, hmm⟩ := hS2
  obtain ⟨m1, m2, m3, m4, m5, m6, m7, m8⟩ := hmm m hn
  have g0 : fr (fun k i => k = 15 ∧ i = 0) M (wI M 15 0 (64 * m + i) 1) := fr_I ⟨rfl, rfl⟩
  have e14 : ∀ j, mI (wI M 15 0 (64 * m + i) 1) 14 j = mI M 14 j := fun j => wI_o (fun z => absurd z.1 (by decide))
  obtain ⟨N, n1, n2, n3, n4⟩ := ru88 (fr15_S g0 hS) hn hi (by rw [e14]; exact hK) (by rw [e14]; exact hB) (kn kb m) 0 fuel _ (by omega) (by unfold fuel; omega) fr_refl (fun x => by unfold va_cpy; rw [if_neg (by omega)])
  rw [e14, e14] at n3 n4
  have n1 : f_M_update_l88 0 (nI m) fuel (wI M 15 0 (64 * m + i) 1) (nI i) 0 = some (N, 0) := n1
  unfold f_M_update_b68
  rw [if_pos (show 0 ≤ nI i from (nI_lei (a := 0) (by decide) (by omega)).mpr (by omega)), r9, bd_some, ix_h, nI_tn (by omega), y11, gd_pos (show ¬ (nI (64 * m + i) < 0 ∨ 256 ≤ 64 * m + i) from fun z => z.elim (nI_ps (by omega)) (fun q => by omega)), show vp_nar .boolean 1 = 1 from rfl, st_eq, n1]
  refine ⟨N, rfl, fr_trans (fr_mono g0 (fun k j z => Or.inr z)) (fr_mono n2 (fun k j z => Or.inl z)), ?_, n3, n4⟩
  rw [n2.2.2.2.1 15 0 (fun z => absurd z.1 (by decide)), wI_h]
theorem ru22 (hS : rSh nm tb kb vb en M) (hn : m < nm) : ∀ (k y fu : Nat), y + k = en m → k < fu → f_M_update_l22 0 (nI m) fu M (nI y) = f_M_update_b68 0 (nI m) M (rE (x_fst (fun i => mI M 15 0 (64 * m + i) = 0) k y)) := by
  obtain ⟨⟨r5, r6, r7, r8, r9, r10, r11, r16, r17, r35, r36, r39, r43, r44, r45, r46⟩, ⟨y0, y1, y2', y3, y4', y5, y6, y7, y8, y9, y10, y11, y12, y13, y14, y15⟩, hm4, hmm⟩ := hS
  obtain ⟨m1, m2, m3, m4, m5, m6, m7, m8⟩ := hmm m hn
  have gm : ¬ (nI m < 0 ∨ 4 ≤ m) := fun z => z.elim (nI_ps (by omega)) (fun q => by omega)
  intro k
  induction k with
  | zero =>
    intro y fu e hf
    obtain ⟨fu, rfl⟩ : ∃ f, fu = f + 1 := ⟨fu - 1, by omega⟩
    rw [f_M_update_l22, r8, bd_some, nI_tn (by omega), y3, gd_pos gm, m3, if_pos ((nI_lei (by omega) (by omega)).mpr (by omega))]
    unfold f_M_update_b52 f_M_update_b67
    rw [r8, bd_some, nI_tn (by omega), y3, gd_pos gm, m3, if_pos ((nI_lei (by omega) (by omega)).mpr (by omega))]
    rfl
  | succ k ih =>
    intro y fu e hf
    obtain ⟨fu, rfl⟩ : ∃ f, fu = f + 1 := ⟨fu - 1, by omega⟩
    rw [f_M_update_l22, r8, bd_some, nI_tn (by omega), y3, gd_pos gm, m3, if_neg (fun z => by have := (nI_lei (by omega) (by omega)).mp z; omega), r9, bd_some, ix_h, nI_tn (by omega), y11, gd_pos (show ¬ (nI (64 * m + y) < 0 ∨ 256 ≤ 64 * m + y) from fun z => z.elim (nI_ps (by omega)) (fun q => by omega)), nI_s, x_fst]
    by_cases q : mI M 15 0 (64 * m + y) = 0
    · rw [if_pos q, ic_t q]
      unfold f_M_update_b52 f_M_update_b67
      rw [r8, bd_some, nI_tn (by omega), y3, gd_pos gm, m3, if_neg (fun z => by have := (nI_lei (by omega) (by omega)).mp z; omega)]
      rfl
    · rw [if_neg q, ic_f q, ih (y + 1) fu (by omega) (by omega)]
/-- the maps behind: entry i is written -/
theorem ru_mst {W2 : tyU} {x : Int32} (hm4 : nm ≤ 4) (h64 : ∀ l, l < nm → en l ≤ 64 ∧ kn kb l ≤ 16 ∧ kn vb l ≤ 64) (hn : m < nm) (hi : i < en m) (h15 : mI N 15 0 = fup (mI M 15 0) (64 * m + i) 1) (h1 : mI N 14 1 = va_cpy (mI M 14 6) (mI M 14 1) 0 (16 * (64 * m + i)) (kn kb m)) (h2 : mI N 14 2 = va_cpy (mI M 14 7) (mI M 14 2) 0 (64 * (64 * m + i)) (kn vb m)) {f : Nat → Int32} (hf : ∀ b, b < kn vb m → f b = mI M 14 7 b) (hm : mst nm tb kb vb en W2 (fup (fun m i => mI M 15 0 (64 * m + i)) m (fup (fun i => mI M 15 0 (64 * m + i)) i 1)) (fup (fun m i b => mI M 14 1 (16 * (64 * m + i) + b)) m (fup (fun i b => mI M 14 1 (16 * (64 * m + i) + b)) i (mI M 14 6))) (fup (fun m i b => mI M 14 2 (64 * (64 * m + i) + b)) m (fup (fun i b => mI M 14 2 (64 * (64 * m + i) + b)) i f))) : rMs nm tb kb vb en W2 N := by
  have e64 := (h64 m hn).1
  refine mst_e hm (fun l hl a ha => ?_) (fun l hl a ha b hb => ?_) (fun l hl a ha b hb => ?_)
  · have := (h64 l hl).1
    rw [h15]
    unfold fup
    by_cases em : l = m
    · rw [if_pos em, em]
      by_cases ei : a = i
      · rw [if_pos ei, if_pos (by omega)]
      · rw [if_neg ei, if_neg (by omega)]
    · rw [if_neg em, if_neg (by omega)]
  · obtain ⟨q1, q2, q3⟩ := h64 l hl
    rw [h1]
    unfold fup va_cpy
    by_cases em : l = m
    · rw [if_pos em, em]
      rw [em] at hb q2
      by_cases ei : a = i
      · rw [if_pos ei, if_pos (by omega), ei, show 0 + (16 * (64 * m + i) + b - 16 * (64 * m + i)) = b by omega]
      · rw [if_neg ei, if_neg (by omega)]
    · have := (h64 m hn).2.1
      rw [if_neg em, if_neg (by omega)]
  · obtain ⟨q1, q2, q3⟩ := h64 l hl
    rw [h2]
    unfold fup va_cpy
    by_cases em : l = m
    · rw [if_pos em, em]
      rw [em] at hb q3
      by_cases ei : a = i
      · rw [if_pos ei, if_pos (by omega), ei, show 0 + (64 * (64 * m + i) + b - 64 * (64 * m + i)) = b by omega, hf b hb]
      · rw [if_neg ei, if_neg (by omega)]
    · have := (h64 m hn).2.2
      rw [if_neg em, if_neg (by omega)]
theorem rupd (hS : rSh nm tb kb vb en M) (hst : rMs nm tb kb vb en W M) (hD : uD nm tb kb en W) (hn : m < nm) (hk : ∀ b, b < kn kb m → key b = mI M 14 6 b) (hv : ∀ b, b < kn vb m → val b = mI M 14 7 b) (hK : ∀ b, b < kn kb m → isB (mI M 14 6 b)) (hB : ∀ b, b < kn vb m → isB (mI M 14 7 b)) : ∃ N, f_M_update M 0 (nI m) = some (N, (u_upd tb kb vb en W m key val).1) ∧ rMs nm tb kb vb en (u_upd tb kb vb en W m key val).2 N ∧ fr (fun k j => (k = 14 ∧ (j = 1 ∨ j = 2)) ∨ (k = 15 ∧ j = 0)) M N ∧ (∀ x, ¬ (∃ l i, l < nm ∧ i < en l ∧ x = 64 * l + i) → mI N 15 0 x = mI M 15 0 x) ∧ ∀ x, 4096 * nm ≤ x → mI N 14 2 x = mI M 14 2 x := by
  have hfd := rfind hS hst hD hn hk
  have hS2 := hS
  obtain ⟨⟨r5, r6, r7, r8, r9, r10, r11, r16, r17, r35, r36, r39, r43, r44, r45, r46⟩, ⟨y0, y1, y2', y3, y4', y5, y6, y7, y8, y9, y10, y11, y12, y13, y14, y15⟩, hm4, hmm⟩ := hS2
  obtain ⟨m1, m2, m3, m4, m5, m6, m7, m8⟩ := hmm m hn
  have gm : ¬ (nI m < 0 ∨ 4 ≤ m) := fun z => z.elim (nI_ps (by omega)) (fun q => by omega)
  have h64 : ∀ l, l < nm → en l ≤ 64 ∧ kn kb l ≤ 16 ∧ kn vb l ≤ 64 := fun l hl => ⟨(hmm l hl).2.2.2.2.2.2.2, (hmm l hl).2.2.2.2.2.1, (hmm l hl).2.2.2.2.2.2.1⟩
  unfold f_M_update
  rw [hfd, b2_some]
  unfold u_upd
  cases e : u_find tb kb en W m key with
  | some i =>
    have hi := find_lt m8 e
    obtain ⟨N, n1, n2, n3, n4, n5⟩ := ru68 hS hn hi hK hB
    rw [if_pos (show 0 ≤ rE (some i) from (nI_lei (a := 0) (b := i) (by decide) (by omega)).mpr (by omega)), show rE (some i) = nI i from rfl, n1]
    refine ⟨N, rfl, ?_, n2, fun x hx => by rw [n3]; exact if_neg (fun z => hx ⟨m, i, hn, hi, z⟩), fun x hx => by
      have e1 := (h64 m hn).2.2
      have e2 := (h64 m hn).1
      rw [n5]
      generalize kn vb m = q at e1 ⊢
      exact cpy_out (by omega)⟩
    obtain ⟨g1, g2, g3⟩ := hst m hn
    have hu : uH W m i ∧ (tb m → ∀ b, b < (kb (nI m)).toNatClampNeg → uK W m i b = key b) := by
      by_cases t : tb m
      · unfold u_find at e
        rw [ic_t t] at e
        obtain ⟨p1, _⟩ := fst_some _ _ _ e
        exact ⟨p1.1, fun _ => p1.2⟩
      · exact ⟨(hD m hn).1 t i hi, fun z => absurd z t⟩
    have ha := mst_again (m := m) (i := i) (key := key) hst hn hi hu.1 hu.2 (x := 1) (by decide) (k2 := mI M 14 6) (fun b hb => (hk b hb).symm)
    exact ru_mst (x := 0) hm4 h64 hn hi n3 n4 n5 (f := fun b => if b < (vb (nI m)).toNatClampNeg then val b else uV W m i b) (fun b hb => by rw [if_pos hb]; exact hv b hb) (mst_val (m := m) (i := i) ha _)
  | none =>
    dsimp only
    rw [if_neg (show ¬ 0 ≤ rE none by decide), r5, bd_some, nI_tn (by omega), y0, gd_pos gm, m4]
    by_cases t : tb m
    · rw [ic_t t, ic_t t, if_pos rfl]
      have h22 := ru22 hS hn (en m) 0 fuel (by omega) (by unfold fuel; omega)
      have h22 : f_M_update_l22 0 (nI m) fuel M 0 = _ := h22
      rw [h22, free_c hst hn]
      cases q : x_fst (fun i => ¬ uH W m i) (en m) 0 with
      | none =>
        refine ⟨M, ?_, hst, fr_refl, fun _ _ => rfl, fun _ _ => rfl⟩
        unfold f_M_update_b68
        rw [if_neg (show ¬ 0 ≤ rE none by decide)]
      | some i =>
        have hi : i < en m := by have := (fst_some _ _ _ q).2; omega
        obtain ⟨N, n1, n2, n3, n4, n5⟩ := ru68 hS hn hi hK hB
        rw [show rE (some i) = nI i from rfl, n1]
        refine ⟨N, rfl, ?_, n2, fun x hx => by rw [n3]; exact if_neg (fun z => hx ⟨m, i, hn, hi, z⟩), fun x hx => by
          have e1 := (h64 m hn).2.2
          have e2 := (h64 m hn).1
          rw [n5]
          generalize kn vb m = q at e1 ⊢
          exact cpy_out (by omega)⟩
        have ha := mst_new (m := m) (i := i) (key := key) hst (kn kb m) rfl (x := 1) (by decide) (k2 := mI M 14 6) (fun b hb => (hk b hb).symm)
        exact ru_mst (x := 0) hm4 h64 hn hi n3 n4 n5 (f := fun b => if b < (vb (nI m)).toNatClampNeg then val b else uV W m i b) (fun b hb => by rw [if_pos hb]; exact hv b hb) (mst_val (m := m) (i := i) ha _)
    · rw [ic_f t, ic_f t, if_neg (by decide)]
      refine ⟨M, ?_, hst, fr_refl, fun _ _ => rfl, fun _ _ => rfl⟩
      unfold f_M_update_b68
      rw [if_neg (show ¬ 0 ≤ rE none by decide)]
theorem rdel (hS : rSh nm tb kb vb en M) (hst : rMs nm tb kb vb en W M) (hD : uD nm tb kb en W) (hn : m < nm) (hk : ∀ b, b < kn kb m → key b = mI M 14 6 b) : ∃ N, f_M_delete M 0 (nI m) = some (N, (u_del tb kb en W m key).1) ∧ rMs nm tb kb vb en (u_del tb kb en W m key).2 N ∧ fr (fun k j => (k = 14 ∧ (j = 1 ∨ j = 2)) ∨ (k = 15 ∧ j = 0)) M N ∧ ∀ x, ¬ (∃ l i, l < nm ∧ i < en l ∧ x = 64 * l + i) → mI N 15 0 x = mI M 15 0 x := by
  have hfd := rfind hS hst hD hn hk
  have hS2 := hS
  obtain ⟨⟨r5, r6, r7, r8, r9, r10, r11, r16, r17, r35, r36, r39, r43, r44, r45, r46⟩, ⟨y0, y1, y2', y3, y4', y5, y6, y7, y8, y9, y10, y11, y12, y13, y14, y15⟩, hm4, hmm⟩ := hS2
  obtain ⟨m1, m2, m3, m4, m5, m6, m7, m8⟩ := hmm m hn
  have gm : ¬ (nI m < 0 ∨ 4 ≤ m) := fun z => z.elim (nI_ps (by omega)) (fun q => by omega)
  have no : f_M_delete_b19 0 (nI m) M (-1) = some (M, -1) := by
    unfold f_M_delete_b19
    rw [if_neg (by decide)]
  unfold f_M_delete
  rw [r5, bd_some, nI_tn (by omega), y0, gd_pos gm, m4]
  unfold u_del
  by_cases t : tb m
  · rw [ic_t t, ic_t t, if_pos rfl, hfd, b2_some]
    cases e : u_find tb kb en W m key with
    | some i =>
      have hi := find_lt m8 e
      refine ⟨wI M 15 0 (64 * m + i) 0, ?_, ?_, fr_I (Or.inr ⟨rfl, rfl⟩), fun x hx => pI_place (fun z => hx ⟨m, i, hn, hi, z⟩)⟩
      · unfold f_M_delete_b19
        rw [if_pos (show 0 ≤ rE (some i) from (nI_lei (a := 0) (b := i) (by decide) (by omega)).mpr (by omega)), show rE (some i) = nI i from rfl, r9, bd_some, ix_h, nI_tn (by omega), y11, gd_pos (show ¬ (nI (64 * m + i) < 0 ∨ 256 ≤ 64 * m + i) from fun z => z.elim (nI_ps (by omega)) (fun q => by omega)), st_eq]
        rfl
      · refine mst_e (mst_gone (m := m) (i := i) hst) (fun l hl a ha => ?_) (fun l hl a ha b hb => ?_) (fun l hl a ha b hb => ?_)
        · have := (hmm l hl).2.2.2.2.2.2.2
          rw [wI_h]
          unfold fup
          by_cases em : l = m
          · rw [if_pos em, em]
            by_cases ei : a = i
            · rw [if_pos ei, if_pos (by omega)]
            · rw [if_neg ei, if_neg (by omega)]
          · rw [if_neg em, if_neg (by omega)]
        · rw [wI_o (fun z => absurd z.1 (by decide))]
        · rw [wI_o (fun z => absurd z.1 (by decide))]
    | none => exact ⟨M, no, hst, fr_refl, fun _ _ => rfl⟩
  · rw [ic_f t, ic_f t, if_neg (by decide)]
    exact ⟨M, no, hst, fr_refl, fun _ _ => rfl⟩
end IRU
