/-! PURE: entry. -/
section JEN
variable {M R : me_M} {x y z : Int32} {nm m i : Nat} {tb : Nat → Prop} {kb vb : Int32 → Int32} {en : Nat → Nat} {y5 s0 : Int32}
theorem sub_k {a b c : Nat} : nI a + nI (c + b) - nI c = nI (a + b) := by
  rw [nI_add, show a + (c + b) = (a + b) + c by omega, ← nI_add, Int32.add_sub_cancel]
theorem off_k {c : Nat} (h : ¬ z < nI c) (hc : c < 1000) : ∃ t, z = nI (c + t) ∧ c + t < 2147483648 ∧ z - nI c = nI t := by
  have hz : (c : Int) ≤ z.toInt := by
    rw [i32_lt, nI_int (by omega)] at h
    omega
  have es := nI_of0 (v := z) (by omega)
  have e : (z.toNatClampNeg : Int) = z.toInt := Int.toNat_of_nonneg (by omega)
  have l := Int32.toInt_lt z
  refine ⟨z.toNatClampNeg - c, ?_, by omega, ?_⟩
  · rw [show c + (z.toNatClampNeg - c) = z.toNatClampNeg by omega]; exact es
  · have : z = nI ((z.toNatClampNeg - c) + c) := by rw [show z.toNatClampNeg - c + c = z.toNatClampNeg by omega]; exact es
    rw [this, ← nI_add, Int32.add_sub_cancel, nI_add, ← this]
theorem off_c {c k : Nat} (h : ¬ z < nI c) (hc : c < 1000) (hk : k < 1000) : (nI c + nI k ≤ z ↔ nI k ≤ z - nI c) := by
  obtain ⟨t, e1, e2, e3⟩ := off_k h hc
  rw [e3, e1, nI_add, nI_lei (by omega) (by omega), nI_lei (by omega) (by omega)]
  omega
theorem e_no : f_M_entry_b38 0 x y z R = some (wI R 1 0 0 1, 0) := by
  unfold f_M_entry_b38 f_M_entry_b39 f_M_entry_b56 f_M_entry_b124 f_M_entry_b125 f_M_entry_b166 f_M_entry_b167 f_M_entry_b179 f_M_entry_b194
  rw [if_pos rfl, if_pos rfl, if_pos rfl, if_pos rfl, if_pos rfl, if_pos rfl, st_eq, pI_same, if_neg (by decide)]
theorem e_125 (hs : rSh nm tb kb vb en R) (hm : m < nm) : f_M_entry_b125 0 (nI m) z R 1 y5 s0 = f_M_entry_b167 0 z R 1 y5 s0 (b1 (¬ z < 200 ∧ ¬ nI (kn vb m) ≤ z - 200)) := by
  have n4 := hs.2.2.1
  unfold f_M_entry_b125
  rw [if_neg (by decide)]
  by_cases a : z < 200
  · rw [if_pos a, b1_f (fun w => w.1 a)]; rfl
  rw [if_neg a, hs.1.2.2.1, bd_some, if_neg (by decide)]
  unfold f_M_entry_b158
  rw [hs.2.1.2.2.1, nI_tn (by omega), gd_pos (ix_t (by omega) (by omega)), (hs.2.2.2 m hm).2.1]
  by_cases b : nI (kn vb m) ≤ z - 200
  · rw [if_pos b, b1_f (fun w => w.2 b)]; rfl
  · rw [if_neg b, b1_t ⟨a, b⟩]
theorem e_77 (hs : rSh nm tb kb vb en R) (hm : m < nm) (hi : i < 64) : f_M_entry_b77 0 (nI m) z R 1 (nI (64 * m + i)) (nI m) 0 = f_M_entry_b125 0 (nI m) z R 1 (nI (64 * m + i)) (b1 (tb m ∧ ¬ mI R 15 0 (64 * m + i) = 0 ∧ ¬ z < 100 ∧ ¬ nI (kn kb m) ≤ z - 100)) := by
  have n4 := hs.2.2.1
  obtain ⟨q1, q2, q3, q4, q5, q6⟩ := hs.2.2.2 m hm
  unfold f_M_entry_b77
  rw [hs.2.1.1, nI_tn (by omega), gd_pos (ix_t (by omega) (by omega)), q4]
  by_cases t : tb m
  · rw [ic_t t, if_pos rfl, hs.1.2.2.2.2.1, bd_some, nI_tn (by omega), hs.2.1.2.2.2.2.2.2.2.2.2.2.2.1, gd_pos (ix_t (by omega) (by omega))]
    by_cases u : mI R 15 0 (64 * m + i) = 0
    · rw [if_pos u, b1_f (fun w => w.2.1 u)]; rfl
    rw [if_neg u]
    by_cases a : z < 100
    · rw [if_pos a, b1_f (fun w => w.2.2.1 a)]; rfl
    rw [if_neg a, hs.1.2.1, bd_some, if_neg (by decide)]
    unfold f_M_entry_b116
    rw [hs.2.1.2.1, nI_tn (by omega), gd_pos (ix_t (by omega) (by omega)), q1]
    by_cases b : nI (kn kb m) ≤ z - 100
    · rw [if_pos b, b1_f (fun w => w.2.2.2 b)]; rfl
    · rw [if_neg b, b1_t ⟨t, u, a, b⟩]
  · rw [ic_f t, if_neg (by decide), b1_f (fun w => t w.1)]; rfl
theorem e_all (hs : rSh nm tb kb vb en R) (h3 : mI R 1 0 3 = nI nm) (hm : m < nm) (hi : i < en m) : f_M_entry R 0 (nI m) (nI i) z = f_M_entry_b167 0 z R 1 (nI (64 * m + i)) (b1 (tb m ∧ ¬ mI R 15 0 (64 * m + i) = 0 ∧ ¬ z < 100 ∧ ¬ nI (kn kb m) ≤ z - 100)) (b1 (¬ z < 200 ∧ ¬ nI (kn vb m) ≤ z - 200)) := by
  have n4 := hs.2.2.1
  have e6 := (hs.2.2.2 m hm).2.2.2.2.2.2.2
  rw [← e_125 hs hm, ← e_77 hs hm (by omega)]
  unfold f_M_entry
  rw [rismap h3 hm n4, b2_some, if_neg (by decide), if_neg (nI_ps (by omega)), hs.1.2.2.2.1, bd_some, rismap h3 hm n4, b2_some, if_neg (by decide)]
  unfold f_M_entry_b30
  rw [hs.2.1.2.2.2.1, nI_tn (by omega), gd_pos (ix_t (by omega) (by omega)), (hs.2.2.2 m hm).2.2.1, if_neg (fun w => by have := (nI_lei (by omega) (by omega)).mp w; omega)]
  unfold f_M_entry_b39
  rw [if_neg (by decide), ix_h]
  unfold f_M_entry_b56
  rw [if_neg (by decide), hs.1.1, bd_some, if_neg (by decide)]
/-- has the entry such a byte -/
theorem c_has {k v e jk jv jh : Nat} {tbl : Prop} (h : sS M m k v e jk jv jh tbl) (hi : i < e) : f_Store_hasByte M m (nI i) z = some (M, b1 (z = 0 ∨ ((tbl ∧ ¬ mI M 15 jh i = 0 ∧ ¬ z < 100 ∧ ¬ 100 + nI k ≤ z) ∨ (¬ z < 200 ∧ ¬ 200 + nI v ≤ z)))) := by
  obtain ⟨⟨k1, k2, k3⟩, ⟨k4, k5, k6⟩, ⟨k7, k8, k9⟩, k10, ⟨k11, k12, k13⟩, k14⟩ := h
  have b47 : ¬ z = 0 → ¬ (tbl ∧ ¬ mI M 15 jh i = 0 ∧ ¬ z < 100 ∧ ¬ 100 + nI k ≤ z) → f_Store_hasByte_b47 m z M = some (M, b1 (z = 0 ∨ ((tbl ∧ ¬ mI M 15 jh i = 0 ∧ ¬ z < 100 ∧ ¬ 100 + nI k ≤ z) ∨ (¬ z < 200 ∧ ¬ 200 + nI v ≤ z)))) := by
    intro n0 n1
    unfold f_Store_hasByte_b47
    by_cases a : z < 200
    · rw [if_pos a, b1_f (fun w => by rcases w with w | w | w; exact n0 w; exact n1 w; exact w.1 a)]
    rw [if_neg a, k2]
    by_cases b : 200 + nI v ≤ z
    · rw [if_pos b, b1_f (fun w => by rcases w with w | w | w; exact n0 w; exact n1 w; exact w.2 b)]
    · rw [if_neg b, b1_t (Or.inr (Or.inr ⟨a, b⟩))]
  unfold f_Store_hasByte f_Store_hasByte_b21 f_Store_hasByte_b22
  rw [k1]
  by_cases z0 : z = 0
  · rw [if_pos z0, b1_t (Or.inl z0), if_pos (show z < 100 by rw [z0]; decide)]
  rw [if_neg z0, if_neg z0, if_pos rfl, if_neg (show ¬ (1 : Int32) = 0 by decide)]
  by_cases a : z < 100
  · rw [if_pos a]; exact b47 z0 (fun w => w.2.2.1 a)
  rw [if_neg a]
  by_cases b : 100 + nI k ≤ z
  · rw [if_pos b]; exact b47 z0 (fun w => w.2.2.2 b)
  rw [if_neg b]
  by_cases t : tbl
  · rw [if_neg (fun w => (k10.mp w) t), k6, bd_some, nI_tn (by omega), k9, gd_pos (ix_t hi (by omega))]
    by_cases u : mI M 15 jh i = 0
    · rw [if_pos u]; exact b47 z0 (fun w => w.2.1 u)
    · rw [if_neg u, b1_t (Or.inr (Or.inl ⟨t, u, a, b⟩))]
  · rw [if_pos (k10.mpr t)]; exact b47 z0 (fun w => t w.1)
theorem J_entry (h : Iv M R) : (∃ M1 R2 rb, 0 < mZ M1 16 5 ∧ f_Law_entry M 0 x y z 5 = some (M1, 0) ∧ f_M_entry R 0 x y z = some (R2, rb) ∧ f_M_thrown R2 0 = some (R2, 0) ∧ mL M1 16 5 0 = rb.toInt64 ∧ Iv M1 R2) ∨ (∃ R2 rb, fT3_G_entry M 0 x y z = some M ∧ f_M_entry R 0 x y z = some (R2, rb) ∧ f_M_thrown R2 0 = some (R2, 1) ∧ Iv M R2) := by
  have h2 := h
  obtain ⟨nm, g, tn, jt, tb, kb, vb, en, jk, jv, jh, W, hc, hr, hb, hp⟩ := h2
  have z16 : mZ M 16 5 = 1 := hc.2.2.2.2.1.2.2
  have r2 : mR M 0 0 2 = some 0 := hc.2.2.2.2.1.1.2.1
  have t3 : mI M 0 0 3 = nI nm := hc.2.2.2.2.2.1.1
  have t4 : mI R 1 0 3 = nI nm := hr.2.2.2.1.1
  have n4 : nm ≤ 4 := hb.1.2.2.1.1
  have bad : fT3_G_entry M 0 x y z = some M → f_M_entry R 0 x y z = f_M_entry_b38 0 x y z R → (∃ R2 rb, fT3_G_entry M 0 x y z = some M ∧ f_M_entry R 0 x y z = some (R2, rb) ∧ f_M_thrown R2 0 = some (R2, 1) ∧ Iv M R2) := fun u v => ⟨_, _, u, v.trans e_no, thr_0, Iv_thr h⟩
  by_cases c1 : x < 0
  · refine Or.inr (bad ?_ ?_)
    · unfold fT3_G_entry; rw [if_pos c1]
    · unfold f_M_entry f_M_isMap; rw [if_pos c1, b2_some, if_pos rfl]
  by_cases c2 : nI nm ≤ x
  · refine Or.inr (bad ?_ ?_)
    · unfold fT3_G_entry; rw [if_neg c1, t3, if_pos c2]
    · unfold f_M_entry f_M_isMap; rw [if_neg c1, t4, if_pos c2, b2_some, if_pos rfl]
  obtain ⟨m, hm, em⟩ := of_rng c1 c2 (by omega)
  have im := rismap t4 hm n4
  by_cases c3 : y < 0
  · refine Or.inr (bad ?_ ?_)
    · unfold fT3_G_entry; rw [if_neg c1, t3, if_neg c2, if_pos c3]
    · rw [em]; unfold f_M_entry; rw [im, b2_some, if_neg (by decide), if_pos c3]
  obtain ⟨⟨_, _, ⟨s1, s2, s3⟩, _⟩, hs⟩ := hc.2.1.1
  have sh := hs m hm
  have rsh := hr.2.2.1.1
  have e64 : en m ≤ 64 := sh.2.2.2.2.1.2.2
  have k16 : kn kb m ≤ 16 := (rsh.2.2.2 m hm).2.2.2.2.2.1
  have v64 : kn vb m ≤ 64 := sh.2.2.2.2.1.2.1
  by_cases c4 : nI (en m) ≤ y
  · refine Or.inr (bad ?_ ?_)
    · unfold fT3_G_entry; rw [if_neg c1, t3, if_neg c2, if_neg c3, r2, bd_some, em, s2, nI_tn (by omega), gd_pos (ix_t (by omega) (by omega)), (s3 m hm).1, bd_some, sh.1.2.2, if_pos c4]
    · rw [em]; unfold f_M_entry; rw [im, b2_some, if_neg (by decide), if_neg c3, rsh.1.2.2.2.1, bd_some, im, b2_some, if_neg (by decide)]
      unfold f_M_entry_b30
      rw [rsh.2.1.2.2.2.1, nI_tn (by omega), gd_pos (ix_t (by omega) (by omega)), (rsh.2.2.2 m hm).2.2.1, if_pos c4]
  obtain ⟨i, hi, ei⟩ := of_rng c3 c4 (by omega)
  have ra := e_all (z := z) rsh t4 hm hi
  have ca := c_has (z := z) sh hi
  have uc := (hc.2.1.2.2.1 m hm).1 i hi
  have ur := (hr.2.2.1.2.2.1 m hm).1 i hi
  have vc := (hc.2.1.2.2.1 m hm).2.1 i hi
  have vr := (hr.2.2.1.2.2.1 m hm).2.1 i hi
  have kc := fun a => (hc.2.1.2.2.1 m hm).2.2 a i hi
  have kr := fun a => (hr.2.2.1.2.2.1 m hm).2.2 a i hi
  have cu : mI M 15 (jh m) i = 0 ↔ mI R 15 0 (64 * m + i) = 0 := uc.trans ur.symm
  have vv : ¬ z < 200 → (200 + nI (kn vb m) ≤ z ↔ nI (kn vb m) ≤ z - 200) := fun a => off_c (c := 200) a (by decide) (by omega)
  have kk : ¬ z < 100 → (100 + nI (kn kb m) ≤ z ↔ nI (kn kb m) ≤ z - 100) := fun a => off_c (c := 100) a (by decide) (by omega)
  have fin : ∀ {v : Int32}, (z = 0 ∨ ((tb m ∧ ¬ mI M 15 (jh m) i = 0 ∧ ¬ z < 100 ∧ ¬ 100 + nI (kn kb m) ≤ z) ∨ (¬ z < 200 ∧ ¬ 200 + nI (kn vb m) ≤ z))) → f_Store_byteOf M m (nI i) z = some (M, v) → f_M_entry R 0 x y z = some (wI R 1 0 0 0, v) → ∃ M1 R2 rb, 0 < mZ M1 16 5 ∧ f_Law_entry M 0 x y z 5 = some (M1, 0) ∧ f_M_entry R 0 x y z = some (R2, rb) ∧ f_M_thrown R2 0 = some (R2, 0) ∧ mL M1 16 5 0 = rb.toInt64 ∧ Iv M1 R2 := by
    intro v q1 q2 q3
    refine ⟨wL M 16 5 0 v.toInt64, wI R 1 0 0 0, v, by show 0 < mZ M 16 5; rw [z16]; decide, ?_, q3, thr_0, pL_same, Iv_out (Iv_thr h)⟩
    unfold f_Law_entry f_G_entry
    rw [if_neg c1, t3, if_neg c2, if_neg c3, r2, bd_some, em, s2, nI_tn (by omega), gd_pos (ix_t (by omega) (by omega)), (s3 m hm).1, bd_some, sh.1.2.2, if_neg c4, ei, ca, b1_t q1, b2_some, if_neg (by decide), q2, b2_some, b2_some, z16, gd_pos (by decide), st_eq]
  obtain ⟨⟨k1, k2, k3⟩, ⟨k4, k5, k6⟩, ⟨k7, k8, k9⟩, k10, ⟨k11, k12, k13⟩, k14⟩ := sh
  by_cases z0 : z = 0
  · refine Or.inl (fin (v := if mI M 15 (jh m) i = 0 then 0 else 1) (Or.inl z0) ?_ ?_)
    · unfold f_Store_byteOf
      rw [if_pos z0, k6, bd_some, nI_tn (by omega), k9, gd_pos (ix_t hi (by omega))]
      by_cases u : mI M 15 (jh m) i = 0
      · rw [if_pos u, if_pos u]
      · rw [if_neg u, if_neg u]
    · rw [em, ei, ra]
      unfold f_M_entry_b167 f_M_entry_b189 f_M_entry_b194
      rw [if_neg (by decide), if_pos z0, st_eq, pI_same, if_pos (by decide), if_pos z0, rsh.1.2.2.2.2.1, bd_some, nI_tn (by omega), rsh.2.1.2.2.2.2.2.2.2.2.2.2.2.1, gd_pos (ix_t (by omega) (by omega)), wI_j (fun w => absurd w.1 (by decide))]
      by_cases u : mI M 15 (jh m) i = 0
      · rw [if_pos u, if_pos (cu.mp u)]
      · rw [if_neg u, if_neg (fun w => u (cu.mpr w))]
  by_cases Ky : tb m ∧ ¬ mI R 15 0 (64 * m + i) = 0 ∧ ¬ z < 100 ∧ ¬ nI (kn kb m) ≤ z - 100
  · obtain ⟨b, eb, lb, db⟩ := off_k (c := 100) Ky.2.2.1 (by decide)
    have bk : b < kn kb m := by
      have := Ky.2.2.2
      rw [show z - 100 = nI b from db] at this
      exact Nat.lt_of_not_le (fun w => this ((nI_lei (by omega) (by omega)).mpr w))
    have uH1 : uH W m i := Classical.byContradiction (fun w => Ky.2.1 (ur.mpr w))
    have kR : mI R 14 1 (16 * (64 * m + i) + b) = uK W m i b := kr Ky.1 uH1 b bk
    have kC : mI M 14 (jk m) (i * kn kb m + b) = uK W m i b := kc Ky.1 uH1 b bk
    have l1 : i * kn kb m + b < en m * kn kb m := by
      have : (i + 1) * kn kb m ≤ en m * kn kb m := Nat.mul_le_mul_right _ hi
      rw [Nat.succ_mul] at this
      omega
    have l2 : en m * kn kb m ≤ 64 * 64 := Nat.mul_le_mul e64 k11
    refine Or.inl (fin (v := uK W m i b &&& 255) (Or.inr (Or.inl ⟨Ky.1, fun w => Ky.2.1 (cu.mp w), Ky.2.2.1, fun w => Ky.2.2.2 ((kk Ky.2.2.1).mp w)⟩)) ?_ ?_)
    · unfold f_Store_byteOf
      rw [if_neg z0, if_neg (fun w : (200 : Int32) ≤ z => by rw [eb] at w; have := (nI_lei (a := 200) (by decide) (by omega)).mp w; omega), k4, bd_some, k1, mul_nI, show nI (i * kn kb m) + z - 100 = nI (i * kn kb m + b) by rw [eb]; exact sub_k (c := 100), nI_tn (by omega), k7 Ky.1, gd_pos (ix_t l1 (by omega)), st_eq, kC]
    · rw [em, ei, ra, b1_t Ky]
      unfold f_M_entry_b167 f_M_entry_b179 f_M_entry_b189 f_M_entry_b194
      rw [if_neg (by decide), if_neg z0, if_neg (by decide), st_eq, pI_same, if_pos (by decide), if_neg z0, if_neg (by decide), rsh.1.2.2.2.2.2.1, bd_some, show (16 : Int32) * nI (64 * m + i) = nI (16 * (64 * m + i)) by rw [show (16 : Int32) = nI 16 from rfl, mul_nI], show nI (16 * (64 * m + i)) + z - 100 = nI (16 * (64 * m + i) + b) by rw [eb]; exact sub_k (c := 100), nI_tn (by omega), rsh.2.1.2.2.2.2.1, gd_pos (ix_t (by omega) (by omega)), wI_j (fun w => absurd w.1 (by decide)), kR]
  have nK : ¬ (tb m ∧ ¬ mI M 15 (jh m) i = 0 ∧ ¬ z < 100 ∧ ¬ 100 + nI (kn kb m) ≤ z) := fun w => Ky ⟨w.1, fun q => w.2.1 (cu.mpr q), w.2.2.1, fun q => w.2.2.2 ((kk w.2.2.1).mpr q)⟩
  by_cases Vy : ¬ z < 200 ∧ ¬ nI (kn vb m) ≤ z - 200
  · obtain ⟨b, eb, lb, db⟩ := off_k (c := 200) Vy.1 (by decide)
    have bk : b < kn vb m := by
      have := Vy.2
      rw [show z - 200 = nI b from db] at this
      exact Nat.lt_of_not_le (fun w => this ((nI_lei (by omega) (by omega)).mpr w))
    have vR : mI R 14 2 (64 * (64 * m + i) + b) = uV W m i b := vr b bk
    have vC : mI M 14 (jv m) (i * kn vb m + b) = uV W m i b := vc b bk
    have l1 : i * kn vb m + b < en m * kn vb m := by
      have : (i + 1) * kn vb m ≤ en m * kn vb m := Nat.mul_le_mul_right _ hi
      rw [Nat.succ_mul] at this
      omega
    have l2 : en m * kn vb m ≤ 64 * 64 := Nat.mul_le_mul e64 k12
    refine Or.inl (fin (v := uV W m i b &&& 255) (Or.inr (Or.inr ⟨Vy.1, fun w => Vy.2 ((vv Vy.1).mp w)⟩)) ?_ ?_)
    · unfold f_Store_byteOf
      rw [if_neg z0, if_pos (show (200 : Int32) ≤ z by rw [eb]; exact (nI_lei (a := 200) (by decide) (by omega)).mpr (by omega)), k5, bd_some, k2, mul_nI, show nI (i * kn vb m) + z - 200 = nI (i * kn vb m + b) by rw [eb]; exact sub_k (c := 200), nI_tn (by omega), k8, gd_pos (ix_t l1 (by omega)), st_eq, vC]
    · rw [em, ei, ra, b1_f Ky, b1_t Vy]
      unfold f_M_entry_b167 f_M_entry_b179 f_M_entry_b189 f_M_entry_b194
      rw [if_neg (by decide), if_neg z0, if_pos rfl, if_neg (by decide), st_eq, pI_same, if_pos (by decide), if_neg z0, if_pos rfl, rsh.1.2.2.2.2.2.2.1, bd_some, show (64 : Int32) * nI (64 * m + i) = nI (64 * (64 * m + i)) by rw [show (64 : Int32) = nI 64 from rfl, mul_nI], show nI (64 * (64 * m + i)) + z - 200 = nI (64 * (64 * m + i) + b) by rw [eb]; exact sub_k (c := 200), nI_tn (by omega), rsh.2.1.2.2.2.2.2.1, gd_pos (ix_t (by omega) (by omega)), wI_j (fun w => absurd w.1 (by decide)), vR]
  · refine Or.inr ⟨wI R 1 0 0 1, 0, ?_, ?_, thr_0, Iv_thr h⟩
    · unfold fT3_G_entry
      rw [if_neg c1, t3, if_neg c2, if_neg c3, r2, bd_some, em, s2, nI_tn (by omega), gd_pos (ix_t (by omega) (by omega)), (s3 m hm).1, bd_some, k3, if_neg c4, ei, ca, b1_f (fun w => by
        rcases w with w | w | w
        · exact z0 w
        · exact nK w
        · exact Vy ⟨w.1, fun q => w.2 ((vv w.1).mpr q)⟩), b2_some, if_pos rfl]
    · rw [em, ei, ra, b1_f Ky, b1_f Vy]
      unfold f_M_entry_b167 f_M_entry_b179 f_M_entry_b194
      rw [if_neg (by decide), if_neg z0, if_pos rfl, if_pos rfl, st_eq, pI_same, if_neg (by decide)]
end JEN
