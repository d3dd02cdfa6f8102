/-! PURE: count and entry. -/
def hcn (H : Nat → Int32) : Nat → Int32
  | 0 => 0
  | n + 1 => hcn H n + (if H n = 0 then 0 else 1)
section JCN
variable {M R : me_M} {x y : Int32} {H G : Nat → Int32} {nm m n : Nat}
theorem hcn_c : ∀ n, (∀ i, i < n → (H i = 0 ↔ G i = 0)) → hcn H n = hcn G n := by
  intro n
  induction n with
  | zero => intro _; rfl
  | succ n ih =>
    intro h
    rw [hcn, hcn, ih (fun i hi => h i (by omega))]
    by_cases e : H n = 0
    · rw [if_pos e, if_pos ((h n (by omega)).mp e)]
    · rw [if_neg e, if_neg (fun z => e ((h n (by omega)).mpr z))]
theorem hcn_z : ∀ k, (∀ i, n ≤ i → i < n + k → H i = 0) → hcn H (n + k) = hcn H n := by
  intro k
  induction k with
  | zero => intro _; rfl
  | succ k ih =>
    intro h
    rw [show n + (k + 1) = (n + k) + 1 from rfl, hcn, ih (fun i a b => h i a (by omega)), if_pos (h (n + k) (by omega) (by omega)), Int32.add_zero]
theorem ccount {e jh : Nat} (h3 : mI M 12 m 3 = nI e) (h6 : mR M 12 m 6 = some jh) (hz : mZ M 15 jh = e) (he : e ≤ 64) : ∀ (k i fu : Nat), i + k = e → k < fu → f_Store_held_l4 m fu M (hcn (mI M 15 jh) i) (nI i) = some (M, hcn (mI M 15 jh) e) := by
  intro k
  induction k with
  | zero =>
    intro i fu e1 hf
    obtain ⟨fu, rfl⟩ : ∃ f, fu = f + 1 := ⟨fu - 1, by omega⟩
    rw [f_Store_held_l4, h3, if_pos ((nI_lei (by omega) (by omega)).mpr (by omega)), show i = e by omega]
  | succ k ih =>
    intro i fu e1 hf
    obtain ⟨fu, rfl⟩ : ∃ f, fu = f + 1 := ⟨fu - 1, by omega⟩
    rw [f_Store_held_l4, h3, if_neg (fun z => by have := (nI_lei (by omega) (by omega)).mp z; omega), h6, bd_some, hz, nI_tn (by omega), gd_pos (ix_t (by omega) (by omega)), nI_s]
    have := ih (i + 1) fu (by omega) (by omega)
    rw [hcn] at this
    by_cases q : mI M 15 jh i = 0
    · rw [if_pos q] at this ⊢
      rw [st_eq]; exact this
    · rw [if_neg q] at this ⊢
      rw [st_eq]; exact this
theorem rismap (h3 : mI R 1 0 3 = nI nm) (hm : m < nm) (hn : nm ≤ 4) : f_M_isMap R 0 (nI m) = some (R, 1) := by
  unfold f_M_isMap
  rw [if_neg (nI_ps (by omega)), h3, if_neg (fun z => by have := (nI_lei (by omega) (by omega)).mp z; omega)]
theorem rcount (h3 : mI R 1 0 3 = nI nm) (hm : m < nm) (hn : nm ≤ 4) (hp : ps_M R) : ∀ (k i fu : Nat), i + k = 64 → k < fu → f_M_count_l21 0 fu R (nI m) (hcn (fun i => mI R 15 0 (64 * m + i)) i) (nI i) = some (R, hcn (fun i => mI R 15 0 (64 * m + i)) 64) := by
  intro k
  induction k with
  | zero =>
    intro i fu e1 hf
    obtain ⟨fu, rfl⟩ : ∃ f, fu = f + 1 := ⟨fu - 1, by omega⟩
    rw [f_M_count_l21, if_pos (show (64 : Int32) ≤ nI i from (nI_lei (a := 64) (by decide) (by omega)).mpr (by omega)), rismap h3 hm hn, b2_some, if_neg (by decide), show i = 64 by omega]
  | succ k ih =>
    intro i fu e1 hf
    obtain ⟨fu, rfl⟩ : ∃ f, fu = f + 1 := ⟨fu - 1, by omega⟩
    rw [f_M_count_l21, if_neg (show ¬ (64 : Int32) ≤ nI i from fun z => by have := (nI_lei (a := 64) (by decide) (by omega)).mp z; omega), rismap h3 hm hn, b2_some, if_neg (by decide), rs_9 hp, bd_some, ix_h, rz_15_0 hp, nI_tn (by omega), gd_pos (ix_t (by omega) (by omega)), nI_s]
    have := ih (i + 1) fu (by omega) (by omega)
    rw [hcn] at this
    by_cases q : mI R 15 0 (64 * m + i) = 0
    · rw [if_pos q] at this ⊢
      rw [st_eq]; exact this
    · rw [if_neg q] at this ⊢
      rw [st_eq]; exact this
theorem sub_10 {t : Nat} : nI (t + 10) - 10 = nI t := by
  show nI (t + 10) - nI 10 = _
  rw [← nI_add, Int32.add_sub_cancel]
theorem pI_12 {kb vb : Int32 → Int32} (h : pI_ nm kb vb M R) : mI M 0 0 12 = mI R 1 0 19 := by
  rcases h with ⟨z1, z2, z3, z4, z5⟩ | ⟨p, n, B, gg, z1, z2, z3, z4⟩
  · rw [z3, z4]
  · rw [z2.2.2.2.1, z3.2.2.2.1]
theorem J_count (h : Iv M R) : ∃ r R1, f_G_count M 0 x = some (M, r) ∧ f_M_count R 0 x = some (R1, r) ∧ Iv M R1 := by
  have h2 := h
  obtain ⟨nm, g, tn, jt, tb, kb, vb, en, jk, jv, jh, W, hc, hr, hb, hp⟩ := h2
  have hi := Iv_thr (x := 0) h
  have r8 : mR M 0 0 8 = some 0 := hc.2.2.2.2.1.1.2.2
  have r2 : mR M 0 0 2 = some 0 := hc.2.2.2.2.1.1.2.1
  have t1 : mI M 0 0 1 = nI tn := hc.2.2.2.2.2.1.2
  have t2 : mI R 1 0 2 = nI tn := hr.2.2.2.1.2
  have t3 : mI M 0 0 3 = nI nm := hc.2.2.2.2.2.1.1
  have t4 : mI R 1 0 3 = nI nm := hr.2.2.2.1.1
  have e1 : mI M 5 0 10 = nI (uN W) := hc.2.1.2.1.2.2.2.2.1.1
  have e2 : mI R 1 0 38 = nI (uN W) := hr.2.2.1.2.1.2.2.2.2.1.1
  have e3 := pI_12 hp
  have e4 := hb.2.2.1.1
  by_cases x0 : x = 0
  · refine ⟨_, _, by unfold f_G_count; rw [if_pos x0], ?_, hi⟩
    unfold f_M_count; rw [st_eq, if_pos (show x < 10 by rw [x0]; decide), if_pos x0, pI_place (by decide), t1, t2]
  by_cases x1 : x = 1
  · refine ⟨_, _, by unfold f_G_count; rw [if_neg x0, if_pos x1], ?_, hi⟩
    unfold f_M_count; rw [st_eq, if_pos (show x < 10 by rw [x1]; decide), if_neg x0, if_pos x1, pI_place (by decide), t3, t4]
  by_cases x2 : x = 2
  · refine ⟨_, _, by unfold f_G_count; rw [if_neg x0, if_neg x1, if_pos x2, r8, bd_some], ?_, hi⟩
    unfold f_M_count; rw [st_eq, if_pos (show x < 10 by rw [x2]; decide), if_neg x0, if_neg x1, if_pos x2, pI_place (by decide), e1, e2]
  by_cases x3 : x = 3
  · unfold f_G_count f_M_count
    rw [if_neg x0, if_neg x1, if_neg x2, if_pos x3, st_eq, if_pos (show x < 10 by rw [x3]; decide), if_neg x0, if_neg x1, if_neg x2, if_pos x3, pI_place (by decide), e3]
    by_cases q : mI R 1 0 19 = 0
    · rw [if_pos q, if_pos q]; exact ⟨_, _, rfl, rfl, hi⟩
    · rw [if_neg q, if_neg q]; exact ⟨_, _, rfl, rfl, hi⟩
  by_cases x4 : x = 4
  · refine ⟨_, _, by unfold f_G_count; rw [if_neg x0, if_neg x1, if_neg x2, if_neg x3, if_pos x4, r8, bd_some], ?_, hi⟩
    unfold f_M_count; rw [st_eq, if_pos (show x < 10 by rw [x4]; decide), if_neg x0, if_neg x1, if_neg x2, if_neg x3, if_pos x4, pI_place (by decide), e4]
  unfold f_G_count
  rw [if_neg x0, if_neg x1, if_neg x2, if_neg x3, if_neg x4]
  by_cases x10 : x < 10
  · refine ⟨_, _, by rw [if_pos x10], ?_, hi⟩
    unfold f_M_count; rw [st_eq, if_pos x10, if_neg x0, if_neg x1, if_neg x2, if_neg x3, if_neg x4]
  rw [if_neg x10]
  have x10' : (10 : Int) ≤ x.toInt := by
    rw [i32_lt] at x10
    have : ¬ x.toInt < 10 := x10
    omega
  have es := nI_of0 (v := x) (by omega)
  obtain ⟨m, em⟩ : ∃ m, x.toNatClampNeg = m + 10 := ⟨x.toNatClampNeg - 10, by
    have : (x.toNatClampNeg : Int) = x.toInt := Int.toNat_of_nonneg (by omega)
    omega⟩
  have lx : x.toNatClampNeg < 2147483648 := by
    have : (x.toNatClampNeg : Int) = x.toInt := Int.toNat_of_nonneg (by omega)
    have := Int32.toInt_lt x
    omega
  rw [em] at es lx
  have n4 : nm ≤ 4 := hb.1.2.2.1.1
  rw [es, sub_10, t3]
  unfold f_M_count
  rw [st_eq, ← es, if_neg x10, es, sub_10, st_eq]
  generalize eR : wI R 1 0 0 0 = Q at hi
  have q3 : mI Q 1 0 3 = nI nm := by rw [← eR, pI_place (by decide)]; exact t4
  have qp : ps_M Q := by rw [← eR]; exact ps_W hr.1
  have q15 : mI Q 15 0 = mI R 15 0 := by rw [← eR, wI_o (fun z => absurd z.1 (by decide))]
  by_cases l : nm ≤ m
  · refine ⟨_, _, by rw [if_pos ((nI_lei (by omega) (by omega)).mpr l)], ?_, hi⟩
    have no : f_M_isMap Q 0 (nI m) = some (Q, 0) := by
      unfold f_M_isMap
      rw [if_neg (nI_ps (by omega)), q3, if_pos ((nI_lei (by omega) (by omega)).mpr l)]
    unfold fuel
    rw [f_M_count_l21, if_neg (by decide), no, b2_some, if_pos rfl, no, b2_some, if_pos rfl]
  · have hm : m < nm := by omega
    obtain ⟨⟨_, _, ⟨s1, s2, s3⟩, _⟩, hs⟩ := hc.2.1.1
    obtain ⟨⟨k1, k2, k3⟩, ⟨k4, k5, k6⟩, ⟨k7, k8, k9⟩, k10, ⟨k11, k12, k13⟩, k14⟩ := hs m hm
    have a := ccount k3 k6 k9 k13 (en m) 0 fuel (by omega) (by unfold fuel; omega)
    have b := rcount q3 hm n4 qp 64 0 fuel (by omega) (by unfold fuel; omega)
    refine ⟨_, Q, by rw [if_neg (fun z => by have := (nI_lei (by omega) (by omega)).mp z; omega), r2, bd_some, s2, nI_tn (by omega), gd_pos (ix_t (by omega) (by omega)), (s3 m hm).1, bd_some, show f_Store_held M m = _ from a, b2_some], ?_, hi⟩
    rw [show f_M_count_l21 0 fuel Q (nI m) 0 0 = _ from b]
    rw [q15]
    have z := hcn_z (H := fun i => mI R 15 0 (64 * m + i)) (n := en m) (64 - en m) (fun i a b => hr.2.2.2.2.1 m hm i a (by omega))
    rw [show en m + (64 - en m) = 64 by omega] at z
    rw [z, hcn_c (en m) (fun i hi => ((hc.2.1.2.2.1 m hm).1 i hi).trans ((hr.2.2.1.2.2.1 m hm).1 i hi).symm)]
end JCN
