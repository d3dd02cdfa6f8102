/-! PURE: the form of a slot, the reference's. -/
theorem w_zero {w : Int64} (h : w &&& 4294967295 = 0) : (d_field w = 0 ↔ w = 0) := by
  constructor
  · intro f
    have e := wn_eq w
    rw [f] at e
    have e2 : w &&& -4294967296 = 0 := by rw [← e]; decide
    refine bt_zero.mpr (fun i hi => ?_)
    have m1 : ∀ i, i < 64 → bt 4294967295 i = decide (i < 32) := by decide
    have m2 : ∀ i, i < 64 → bt (-4294967296) i = decide (32 ≤ i) := by decide
    have b1' := congrArg (fun x => bt x i) h
    have b2' := congrArg (fun x => bt x i) e2
    simp only [bt_and, bt_0, m1 i hi, m2 i hi] at b1' b2'
    by_cases g : i < 32
    · rw [decide_eq_true g, Bool.and_true] at b1'
      exact b1'
    · rw [decide_eq_true (show 32 ≤ i by omega), Bool.and_true] at b2'
      exact b2'
  · intro z
    rw [z]
    decide
theorem t_wrf : ∀ n, n < 256 → k_ri (nI n) = 6 → (jishr (nI n) 4 = 3 ↔ (kd (nI n)).2.1 = 3) ∧ (jishr (nI n) 4 = 9 ↔ (kd (nI n)).2.1 = 4) ∧ ((jishr (nI n) 4 = 6 ∨ jishr (nI n) 4 = 7 ∨ jishr (nI n) 4 = 12) ↔ (¬ (kd (nI n)).2.1 < 8 ∧ ¬ 10 < (kd (nI n)).2.1)) := by decide +kernel
theorem t_hfr : ∀ n, n < 256 → ((kd (nI n)).1 = 8 ∨ k_ri (nI n) = 6) → f_M_hasFrom (nI n) = some (kd (nI n)).2.2.2.2 := by decide +kernel
theorem i64_le {x y : Int32} : x.toInt64 < y.toInt64 ↔ x < y := by
  rw [Int64.lt_iff_toInt_lt, Int32.lt_iff_toInt_lt, Int32.toInt_toInt64, Int32.toInt_toInt64]
theorem in_i {v a b : Int32} : f_M_in v.toInt64 a.toInt64 b.toInt64 = some (b1 (¬ v < a ∧ ¬ b < v)) := by
  unfold f_M_in
  by_cases h : v < a
  · rw [if_pos (i64_le.mpr h), b1_f (fun z => z.1 h)]
  · rw [if_neg (fun z => h (i64_le.mp z))]
    by_cases g : b < v
    · rw [if_pos (i64_le.mpr g), b1_f (fun z => z.2 g)]
    · rw [if_neg (fun z => g (i64_le.mp z)), b1_t ⟨h, g⟩]
theorem nlt_le {a b : Int32} : ¬ a < b ↔ b ≤ a := by
  rw [Int32.lt_iff_toInt_lt, Int32.le_iff_toInt_le]
  omega
theorem d_from16 (c : Int64) : ∃ k, k < 16 ∧ d_from c = nI k := and_15 _
section RF
variable {M : me_M} {c w : Int64} {n k nm : Nat} {P Q : Prop}
theorem j_5 {S : Prop} : (if b1 P = 0 then some (M, b1 S) else some (M, b1 Q)) = some (M, b1 ((P ∧ Q) ∨ (¬ P ∧ S))) := by
  by_cases h : P
  · rw [if_neg (b1_n0 h), b1_c (show Q ↔ ((P ∧ Q) ∨ (¬ P ∧ S)) from ⟨fun z => Or.inl ⟨h, z⟩, fun z => z.elim And.right (fun q => absurd h q.1)⟩)]
  · rw [if_pos (b1_f h), b1_c (show S ↔ ((P ∧ Q) ∨ (¬ P ∧ S)) from ⟨fun z => Or.inr ⟨h, z⟩, fun z => z.elim (fun q => absurd q.1 h) And.right⟩)]
theorem j_2 : (if b1 P = 0 then some (M, (0 : Int32)) else some (M, b1 Q)) = some (M, b1 (P ∧ Q)) := by
  by_cases h : P
  · rw [if_neg (b1_n0 h), b1_c (show Q ↔ (P ∧ Q) from ⟨fun z => ⟨h, z⟩, fun z => z.2⟩)]
  · rw [if_pos (b1_f h), b1_f (fun z => h z.1)]
theorem j_1 : (if b1 P = 0 then some (M, (0 : Int32)) else some (M, (1 : Int32))) = some (M, b1 P) := by
  by_cases h : P
  · rw [if_neg (b1_n0 h), b1_t h]
  · rw [if_pos (b1_f h), b1_f h]
theorem wide_iff (lw : w &&& 4294967295 = 0) : (d_from c = 0 ∨ (d_from c = 1 ∧ d_field w = 0)) ↔ (¬ 1 < d_from c ∧ (d_from c = 0 ∨ w = 0)) := by
  obtain ⟨q, hq, e⟩ := d_from16 c
  rw [e, w_zero lw]
  have h1 : (1 : Int32) < nI q ↔ 1 < q := nI_lti (a := 1) (by decide) (by omega)
  have h0 : nI q = 0 ↔ q = 0 := ⟨fun z => nI_inj (b := 0) (by omega) (by decide) z, fun z => by rw [z]; rfl⟩
  have h2 : nI q = 1 ↔ q = 1 := ⟨fun z => nI_inj (b := 1) (by omega) (by decide) z, fun z => by rw [z]; rfl⟩
  rw [h1, h0, h2]
  constructor
  · rintro (z | ⟨z1, z2⟩)
    · exact ⟨by omega, Or.inl z⟩
    · exact ⟨by omega, Or.inr z2⟩
  · rintro ⟨z1, z2 | z2⟩
    · exact Or.inl z2
    · by_cases h : q = 0
      · exact Or.inl h
      · exact Or.inr ⟨by omega, z2⟩
theorem r_shp (hM : ps_M M) (hc : mL M 16 0 k = c) (h12 : mI M 1 0 12 = nI n) (hk : k < n) (hn : n ≤ 2000) : f_M_isWellMade M 0 (nI k) = some (M, b1 (f_shp c (mL M 16 0 (k + 1)) (k + 1 < n))) := by
  obtain ⟨op, hop, eop⟩ := fam_c c
  have e60 : f_M_isWellMade M 0 (nI k) = f_M_isWellMade_b60 0 (nI k) M c (d_op c) (k_ri (d_op c)) (b1 (d_to c = 0)) (b1 (d_from c = 0)) (b1 (d_off c = 0)) := by
    have s46 : ∀ y7 : Int32, f_M_isWellMade_b46 0 (nI k) M c (d_op c) (k_ri (d_op c)) (b1 (d_to c = 0)) y7 = f_M_isWellMade_b60 0 (nI k) M c (d_op c) (k_ri (d_op c)) (b1 (d_to c = 0)) y7 (b1 (d_off c = 0)) := by
      intro y7
      unfold f_M_isWellMade_b46
      rw [r_off, bd_some]
      by_cases h : d_off c = 0
      · rw [if_pos h, b1_t h]
      · rw [if_neg h, b1_f h]
    have s32 : f_M_isWellMade_b32 0 (nI k) M c (d_op c) (k_ri (d_op c)) (b1 (d_to c = 0)) = f_M_isWellMade_b60 0 (nI k) M c (d_op c) (k_ri (d_op c)) (b1 (d_to c = 0)) (b1 (d_from c = 0)) (b1 (d_off c = 0)) := by
      unfold f_M_isWellMade_b32
      rw [r_from, bd_some]
      by_cases h : d_from c = 0
      · rw [if_pos h, b1_t h, s46]
      · rw [if_neg h, b1_f h, s46]
    unfold f_M_isWellMade
    rw [rs_13 hM, bd_some, rz_16_0 hM, gd_pos (ix_ok (by omega) (by decide)), nI_tn (by omega), st_eq, hc, r_op, bd_some, eop, (t_in op hop).1, bd_some, ← eop, r_to, bd_some]
    by_cases h : d_to c = 0
    · rw [if_pos h]
      rw [b1_t h] at s32 ⊢
      exact s32
    · rw [if_neg h]
      rw [b1_f h] at s32 ⊢
      exact s32
  rw [e60]
  unfold f_M_isWellMade_b60 f_shp
  rw [r_field, bd_some, kri]
  by_cases f1 : d_fam c = 1
  · rw [if_neg (show ¬ d_fam c = 6 by rw [f1]; decide), if_neg (show ¬ d_fam c = 7 by rw [f1]; decide), if_neg (show ¬ d_fam c = 8 by rw [f1]; decide), if_neg (show ¬ d_fam c = 9 by rw [f1]; decide), if_neg (show ¬ d_fam c = 10 by rw [f1]; decide), if_pos f1, if_pos f1, h12, nI_s]
    by_cases lt : k + 1 < n
    · have nle : ¬ nI n ≤ nI (k + 1) := fun z => by have := (nI_lei (by omega) (by omega)).mp z; omega
      rw [if_neg nle, rs_13 hM, bd_some, if_neg nle]
      unfold f_M_isWellMade_b167
      rw [rz_16_0 hM, gd_pos (ix_ok (by omega) (by decide)), nI_tn (by omega), r_from, bd_some, rs_13 hM, bd_some, nI_s, rz_16_0 hM, gd_pos (ix_ok (by omega) (by decide)), nI_tn (by omega), r_field, bd_some, i_1, i_2]
      generalize mL M 16 0 (k + 1) = w
      by_cases lw : w &&& 4294967295 = 0
      · rw [if_pos lw]
        have e1 : (if b1 (d_from c = 0) = 0 then some (M, b1 (d_from c = 1 ∧ d_field w = 0)) else some (M, (1 : Int32))) = some (M, b1 (d_from c = 0 ∨ (d_from c = 1 ∧ d_field w = 0))) := by
          by_cases h : d_from c = 0
          · rw [if_neg (b1_n0 h), b1_t (Or.inl h)]
          · rw [if_pos (b1_f h), b1_c (show (d_from c = 1 ∧ d_field w = 0) ↔ (d_from c = 0 ∨ (d_from c = 1 ∧ d_field w = 0)) from ⟨Or.inr, fun z => z.elim (fun q => absurd q h) id⟩)]
        rw [e1, b1_c (wide_iff lw), j_2]
        exact congrArg some (Prod.ext rfl (b1_c ⟨fun z => ⟨z.1, z.2.1, lt, lw, z.2.2⟩, fun z => ⟨z.1, z.2.1, z.2.2.2.2⟩⟩))
      · rw [if_neg lw, b1_f (fun z => lw z.2.2.2.1)]
    · rw [if_pos (show nI n ≤ nI (k + 1) from (nI_lei (by omega) (by omega)).mpr (by omega)), b1_f (fun z => lt z.2.2.1)]
  rw [if_neg f1]
  by_cases f2 : d_fam c = 2
  · rw [if_neg (show ¬ d_fam c = 6 by rw [f2]; decide), if_neg (show ¬ d_fam c = 7 by rw [f2]; decide), if_neg (show ¬ d_fam c = 8 by rw [f2]; decide), if_neg (show ¬ d_fam c = 9 by rw [f2]; decide), if_neg (show ¬ d_fam c = 10 by rw [f2]; decide), if_neg f1, if_pos f2, if_pos f2, i_1]
  rw [if_neg f2]
  by_cases f3 : d_fam c = 3
  · rw [if_neg (show ¬ d_fam c = 6 by rw [f3]; decide), if_neg (show ¬ d_fam c = 7 by rw [f3]; decide), if_neg (show ¬ d_fam c = 8 by rw [f3]; decide), if_neg (show ¬ d_fam c = 9 by rw [f3]; decide), if_neg (show ¬ d_fam c = 10 by rw [f3]; decide), if_neg f1, if_neg f2, if_pos f3, if_pos f3, i_1]
  rw [if_neg f3]
  by_cases f4 : d_fam c = 4
  · rw [if_neg (show ¬ d_fam c = 6 by rw [f4]; decide), if_neg (show ¬ d_fam c = 7 by rw [f4]; decide), if_neg (show ¬ d_fam c = 8 by rw [f4]; decide), if_neg (show ¬ d_fam c = 9 by rw [f4]; decide), if_neg (show ¬ d_fam c = 10 by rw [f4]; decide), if_neg f1, if_neg f2, if_neg f3, if_pos f4, if_pos f4]
  rw [if_neg f4]
  by_cases f5 : d_fam c = 5
  · rw [if_neg (show ¬ d_fam c = 6 by rw [f5]; decide), if_neg (show ¬ d_fam c = 7 by rw [f5]; decide), if_neg (show ¬ d_fam c = 8 by rw [f5]; decide), if_neg (show ¬ d_fam c = 9 by rw [f5]; decide), if_neg (show ¬ d_fam c = 10 by rw [f5]; decide), if_neg f1, if_neg f2, if_neg f3, if_neg f4, if_pos f5, if_pos f5, i_1]
  rw [if_neg f5]
  by_cases f6 : d_fam c = 6
  · rw [if_pos f6, if_pos f6]
    have f6' : (kd (nI op)).1 = 6 := by rw [← eop]; exact f6
    by_cases o11 : d_opn c = 11
    · rw [if_pos o11]
      have rf0 : d_rf c = 0 := by unfold d_rf; rw [eop]; exact t_ar5 op hop f6' (by rw [← eop]; exact o11)
      rw [if_neg (by decide), if_neg (by decide), if_neg (by decide), if_neg (by decide), if_neg (by decide), if_neg (by decide), if_pos rfl, i_1, j_2, j_2]
      refine congrArg some (Prod.ext rfl (b1_c ?_))
      show _ ↔ (d_off c = 0 ∧ (if d_rf c = 0 then d_from c = 0 else d_field c = 0) ∧ (if d_opn c = 14 then f_64 c else if d_opn c = 13 then f_64 c else if d_opn c = 11 then d_field c = 0 else True))
      rw [if_pos rf0, if_neg (show ¬ d_opn c = 14 by rw [o11]; decide), if_neg (show ¬ d_opn c = 13 by rw [o11]; decide), if_pos o11]
    · rw [if_neg o11]
      by_cases o14 : d_opn c = 14
      · rw [if_pos o14]
        have rf0 : d_rf c = 0 := by unfold d_rf; rw [eop]; exact (t_ar4 op hop f6' (by rw [← eop]; exact o14)).1
        rw [if_neg (by decide), if_neg (by decide), if_neg (by decide), if_neg (by decide), if_neg (by decide), if_neg (by decide), if_neg (by decide), if_pos rfl, i_1, i_3, i_3, j_2, j_2]
        refine congrArg some (Prod.ext rfl (b1_c ?_))
        show _ ↔ (d_off c = 0 ∧ (if d_rf c = 0 then d_from c = 0 else d_field c = 0) ∧ (if d_opn c = 14 then f_64 c else if d_opn c = 13 then f_64 c else if d_opn c = 11 then d_field c = 0 else True))
        rw [if_pos rf0, if_pos o14]
      · rw [if_neg o14]
        by_cases o13 : d_opn c = 13
        · rw [if_pos o13]
          have rf0 : d_rf c = 0 := by unfold d_rf; rw [eop]; exact (t_ar3 op hop f6' (by rw [← eop]; exact o13)).1
          rw [if_neg (by decide), if_neg (by decide), if_neg (by decide), if_neg (by decide), if_neg (by decide), if_neg (by decide), if_neg (by decide), if_neg (by decide), if_pos rfl, i_1, i_3, i_3, j_2, j_2]
          refine congrArg some (Prod.ext rfl (b1_c ?_))
          show _ ↔ (d_off c = 0 ∧ (if d_rf c = 0 then d_from c = 0 else d_field c = 0) ∧ (if d_opn c = 14 then f_64 c else if d_opn c = 13 then f_64 c else if d_opn c = 11 then d_field c = 0 else True))
          rw [if_pos rf0, if_neg o14, if_pos o13]
        · rw [if_neg o13]
          have k6 : k_ri (nI op) = 6 := by rw [← eop, kri, if_pos f6, if_neg o11, if_neg o14, if_neg o13]
          rw [if_neg (by decide), if_neg (by decide), if_neg (by decide), if_neg (by decide), if_neg (by decide), if_pos rfl, eop, t_hfr op hop (Or.inr k6), bd_some, ← eop]
          rw [show (kd (d_op c)).2.2.2.2 = d_rf c from rfl, j_1, i_1, i_5, j_2]
          refine congrArg some (Prod.ext rfl (b1_c ?_))
          show _ ↔ (d_off c = 0 ∧ (if d_rf c = 0 then d_from c = 0 else d_field c = 0) ∧ (if d_opn c = 14 then f_64 c else if d_opn c = 13 then f_64 c else if d_opn c = 11 then d_field c = 0 else True))
          rw [if_neg o14, if_neg o13, if_neg o11]
          exact ⟨fun z => ⟨z.1, z.2, trivial⟩, fun z => ⟨z.1, z.2.1⟩⟩
  rw [if_neg f6, if_neg f6]
  by_cases f7 : d_fam c = 7
  · rw [if_pos f7, if_pos f7, if_neg (by decide), if_neg (by decide), if_neg (by decide), if_neg (by decide), if_neg (by decide), if_neg (by decide), if_neg (by decide), if_neg (by decide), if_neg (by decide), if_pos rfl, i_1, j_2, j_2]
    exact congrArg some (Prod.ext rfl (b1_c ⟨fun z => ⟨z.2.2, z.1, z.2.1⟩, fun z => ⟨z.2.1, z.2.2, z.1⟩⟩))
  rw [if_neg f7, if_neg f7]
  by_cases f8 : d_fam c = 8
  · rw [if_pos f8, if_pos f8, if_neg (by decide), if_neg (by decide), if_neg (by decide), if_neg (by decide), if_neg (by decide), if_neg (by decide), if_neg (by decide), if_neg (by decide), if_neg (by decide), if_neg (by decide), if_pos rfl, eop, t_hfr op hop (Or.inl (by rw [← eop]; exact f8)), bd_some, ← eop, show (kd (d_op c)).2.2.2.2 = d_rf c from rfl, i_1, i_5]
  rw [if_neg f8, if_neg f8]
  by_cases f9 : d_fam c = 9
  · rw [if_pos f9, if_pos f9, if_neg (by decide), if_neg (by decide), if_neg (by decide), if_neg (by decide), if_neg (by decide), if_neg (by decide), if_neg (by decide), if_neg (by decide), if_neg (by decide), if_neg (by decide), if_neg (by decide), if_pos rfl, j_1, j_2, j_2]
    exact congrArg some (Prod.ext rfl (b1_c ⟨fun z => ⟨z.2.2, z.1, z.2.1⟩, fun z => ⟨z.2.1, z.2.2, z.1⟩⟩))
  rw [if_neg f9, if_neg f9]
  by_cases f10 : d_fam c = 10
  · rw [if_pos f10, if_pos f10, if_neg (by decide), if_neg (by decide), if_neg (by decide), if_neg (by decide), if_neg (by decide), if_neg (by decide), if_neg (by decide), if_neg (by decide), if_neg (by decide), if_neg (by decide), if_neg (by decide), if_neg (by decide), if_pos rfl, i_1, j_2, j_2, j_2]
    exact congrArg some (Prod.ext rfl (b1_c ⟨fun z => ⟨z.2.2.2, z.2.2.1, z.1, z.2.1⟩, fun z => ⟨z.2.2.1, z.2.2.2, z.2.1, z.1⟩⟩))
  · rw [if_neg f10, if_neg f10, if_neg f1, if_neg f2, if_neg f3, if_neg f4, if_neg f5, if_neg f6, if_neg f7, if_neg f8, if_neg f9]
    have tf := t_fam op hop
    have e : d_fam c = (kd (nI op)).1 := by unfold d_fam; rw [eop]
    rw [← e] at tf
    simp only [List.mem_cons, List.not_mem_nil, or_false] at tf
    have f0 : d_fam c = 0 := by
      rcases tf with r | r | r | r | r | r | r | r | r | r | r
      · exact r
      · exact absurd r f1
      · exact absurd r f2
      · exact absurd r f3
      · exact absurd r f4
      · exact absurd r f5
      · exact absurd r f6
      · exact absurd r f7
      · exact absurd r f8
      · exact absurd r f9
      · exact absurd r f10
    rw [f0, if_neg (by decide), if_neg (by decide), if_neg (by decide), if_neg (by decide), b1_f id]
theorem r_flt (hM : ps_M M) (hc : mL M 16 0 k = c) (h12 : mI M 1 0 12 = nI n) (hk : k < n) (hn : n ≤ 2000) (hm : mI M 1 0 3 = nI nm) (hm4 : nm ≤ 4) : f_M_formFault M 0 (nI k) = some (M, f_flt c (mL M 16 0 (k + 1)) (k + 1 < n) (nI nm)) := by
  obtain ⟨op, hop, eop⟩ := fam_c c
  unfold f_M_formFault f_flt
  rw [r_shp hM hc h12 hk hn, b2_some]
  by_cases s : f_shp c (mL M 16 0 (k + 1)) (k + 1 < n)
  · rw [if_neg (b1_n0 s), ic_t s, rs_13 hM, bd_some, rz_16_0 hM, gd_pos (ix_ok (by omega) (by decide)), nI_tn (by omega), st_eq, hc, r_op, bd_some, eop, (t_in op hop).1, bd_some, ← eop, r_field, bd_some]
    have y1 : k_ri (d_op c) = 1 ↔ d_fam c = 1 := by
      rw [eop]
      exact (show ∀ n, n < 256 → (k_ri (nI n) = 1 ↔ (kd (nI n)).1 = 1) by decide +kernel) op hop |>.trans (by rw [← eop]; rfl)
    have y12 : k_ri (d_op c) = 12 ↔ d_fam c = 9 := by
      rw [eop]
      exact (show ∀ n, n < 256 → (k_ri (nI n) = 12 ↔ (kd (nI n)).1 = 9) by decide +kernel) op hop |>.trans (by rw [← eop]; rfl)
    have b208 : f_M_formFault_b208 0 M c (k_ri (d_op c)) (d_field c) = some (M, ic (d_fam c = 1 ∧ d_from c = 1 ∧ (d_field c < 0 ∨ ¬ d_field c < nI nm)) 4 0) := by
      unfold f_M_formFault_b208
      by_cases a : d_fam c = 1
      · rw [if_pos (y1.mpr a), r_from, bd_some]
        by_cases b : d_from c = 1
        · have e : f_M_in (d_field c).toInt64 0 (mI M 1 0 3 - 1).toInt64 = some (b1 (¬ d_field c < 0 ∧ ¬ (mI M 1 0 3 - 1) < d_field c)) := in_i (a := 0)
          have lt : (nI nm - 1 < d_field c) ↔ ¬ d_field c < nI nm := by
            rw [Int32.lt_iff_toInt_lt, Int32.lt_iff_toInt_lt, nI_int (by omega)]
            have es : (nI nm - 1).toInt = (nm : Int) - 1 := by
              have : nm = 0 ∨ nm = 1 ∨ nm = 2 ∨ nm = 3 ∨ nm = 4 := by omega
              rcases this with r | r | r | r | r <;> rw [r] <;> decide
            rw [es]
            omega
          rw [if_pos b, e, bd_some, hm]
          by_cases d : d_field c < 0
          · rw [if_pos (b1_f (fun z => z.1 d)), ic_t ⟨a, b, Or.inl d⟩]
          · by_cases f : d_field c < nI nm
            · rw [if_neg (b1_n0 ⟨d, fun z => lt.mp z f⟩), ic_f (fun z => z.2.2.elim d (fun q => q f))]
            · rw [if_pos (b1_f (fun z => z.2 (lt.mpr f))), ic_t ⟨a, b, Or.inr f⟩]
        · rw [if_neg b, ic_f (fun z => b z.2.1)]
      · rw [if_neg (fun z => a (y1.mp z)), ic_f (fun z => a z.1)]
    have b188 : f_M_formFault_b188 0 M c (k_ri (d_op c)) (d_field c) = some (M, ic (d_fam c = 9 ∧ (d_field c < 1 ∨ ¬ d_field c ≤ 6)) 4 (ic (d_fam c = 1 ∧ d_from c = 1 ∧ (d_field c < 0 ∨ ¬ d_field c < nI nm)) 4 0)) := by
      unfold f_M_formFault_b188
      rw [b208]
      by_cases a : d_fam c = 9
      · have e : f_M_in (d_field c).toInt64 1 6 = some (b1 (¬ d_field c < 1 ∧ ¬ 6 < d_field c)) := in_i (a := 1) (b := 6)
        rw [if_pos (y12.mpr a), e, bd_some]
        by_cases d : (d_field c < 1 ∨ ¬ d_field c ≤ 6)
        · rw [if_pos (b1_f (fun z => d.elim z.1 (fun q => q (nlt_le.mp z.2))))]
          exact congrArg some (Prod.ext rfl (ic_t ⟨a, d⟩).symm)
        · rw [if_neg (b1_n0 ⟨fun z => d (Or.inl z), fun z => d (Or.inr (fun q => (nlt_le.mpr q) z))⟩)]
          exact congrArg some (Prod.ext rfl (ic_f (fun z => d z.2)).symm)
      · rw [if_neg (fun z => a (y12.mp z))]
        exact congrArg some (Prod.ext rfl (ic_f (fun z => a z.1)).symm)
    obtain ⟨V, hV⟩ : ∃ V, V = ic (d_fam c = 9 ∧ (d_field c < 1 ∨ ¬ d_field c ≤ 6)) (4 : Int32) (ic (d_fam c = 1 ∧ d_from c = 1 ∧ (d_field c < 0 ∨ ¬ d_field c < nI nm)) 4 0) := ⟨_, rfl⟩
    rw [← hV] at b188 ⊢
    -- the FIELD of an operation
    have b86 : f_M_formFault_b86 0 M c (d_op c) (k_ri (d_op c)) (d_field c) = some (M, ic (10 < d_from c) 2 (ic (d_fam c = 6 ∧ d_rf c = 0 ∧ f_wr c) 3 V)) := by
      unfold f_M_formFault_b86
      rw [r_from, bd_some]
      by_cases b : 10 < d_from c
      · rw [if_neg (fun z => (nlt_le.mpr z) b)]
        exact congrArg some (Prod.ext rfl (ic_t b).symm)
      rw [if_pos (nlt_le.mp b), st_eq, b188, show ic (10 < d_from c) (2 : Int32) (ic (d_fam c = 6 ∧ d_rf c = 0 ∧ f_wr c) 3 V) = ic (d_fam c = 6 ∧ d_rf c = 0 ∧ f_wr c) 3 V from ic_f b]
      by_cases k6 : k_ri (d_op c) = 6
      · have k6' : k_ri (nI op) = 6 := by rw [← eop]; exact k6
        have fam6 : d_fam c = 6 := (show ∀ n, n < 256 → (k_ri (nI n) = 6 → (kd (nI n)).1 = 6) by decide +kernel) op hop k6' |> fun z => by rw [← eop] at z; exact z
        have nn : ¬ d_opn c = 13 ∧ ¬ d_opn c = 14 := (show ∀ n, n < 256 → (k_ri (nI n) = 6 → ¬ (kd (nI n)).2.1 = 13 ∧ ¬ (kd (nI n)).2.1 = 14) by decide +kernel) op hop k6' |> fun z => by rw [← eop] at z; exact z
        have hna : f_M_isNarrow (d_op c) = some (d_nar c) := by
          rw [eop]
          have := t_nar op hop (Or.inr (by rw [← eop]; exact ⟨fam6, nn.1, nn.2⟩))
          rw [this, ← eop]
          rfl
        obtain ⟨w3, w9, wsh⟩ := t_wrf op hop k6'
        rw [← eop] at w3 w9 wsh
        have hf : f_M_hasFrom (d_op c) = some (d_rf c) := by
          rw [eop, t_hfr op hop (Or.inr k6'), ← eop]
          rfl
        rw [if_pos k6, hf, bd_some]
        by_cases d : d_rf c = 0
        · rw [if_pos d]
          have e180 : ∀ x : Int32, f_M_formFault_b180 0 M c (k_ri (d_op c)) (d_field c) x.toInt64 0 (d_field c).toInt64 = some (M, ic (d_field c < 0 ∨ ¬ d_field c ≤ x) 3 V) := by
            intro x
            unfold f_M_formFault_b180
            rw [show f_M_in (d_field c).toInt64 0 x.toInt64 = some (b1 (¬ d_field c < 0 ∧ ¬ x < d_field c)) from in_i (a := 0), bd_some, b188]
            by_cases q : (d_field c < 0 ∨ ¬ d_field c ≤ x)
            · rw [if_pos (b1_f (fun z => q.elim z.1 (fun y => y (nlt_le.mp z.2)))), ic_t q]
            · rw [if_neg (b1_n0 ⟨fun z => q (Or.inl z), fun z => q (Or.inr (fun y => (nlt_le.mpr y) z))⟩), ic_f q]
          have e159 : f_M_formFault_b159 0 M c (d_op c) (k_ri (d_op c)) (d_field c) = some (M, ic (d_field c < 0 ∨ (if d_nar c = 0 then ¬ d_field c ≤ 63 else ¬ d_field c ≤ 31)) 3 V) := by
            unfold f_M_formFault_b159
            rw [hna, bd_some]
            by_cases na : d_nar c = 0
            · rw [if_pos na, if_pos na]
              exact e180 63
            · rw [if_neg na, if_neg na]
              exact e180 31
          have e138 : f_M_formFault_b138 0 M c (d_op c) (k_ri (d_op c)) (d_field c) (jishr (d_op c) 4) = some (M, ic (¬ d_opn c < 8 ∧ ¬ 10 < d_opn c ∧ (d_field c < 0 ∨ (if d_nar c = 0 then ¬ d_field c ≤ 63 else ¬ d_field c ≤ 31))) 3 V) := by
            unfold f_M_formFault_b138
            rw [e159, b188]
            by_cases q : (jishr (d_op c) 4 = 6 ∨ jishr (d_op c) 4 = 7 ∨ jishr (d_op c) 4 = 12)
            · have r := wsh.mp q
              rw [show ic (¬ d_opn c < 8 ∧ ¬ 10 < d_opn c ∧ (d_field c < 0 ∨ (if d_nar c = 0 then ¬ d_field c ≤ 63 else ¬ d_field c ≤ 31))) (3 : Int32) V = ic (d_field c < 0 ∨ (if d_nar c = 0 then ¬ d_field c ≤ 63 else ¬ d_field c ≤ 31)) 3 V from ic_c ⟨fun z => z.2.2, fun z => ⟨r.1, r.2, z⟩⟩]
              by_cases q1 : jishr (d_op c) 4 = 6
              · rw [if_pos q1]
              rw [if_neg q1]
              by_cases q2 : jishr (d_op c) 4 = 7
              · rw [if_pos q2]
              rw [if_neg q2, if_pos (q.elim (fun z => absurd z q1) (fun z => z.elim (fun y => absurd y q2) id))]
            · rw [if_neg (fun z => q (Or.inl z)), if_neg (fun z => q (Or.inr (Or.inl z))), if_neg (fun z => q (Or.inr (Or.inr z))), ic_f (fun z => q (wsh.mpr ⟨z.1, z.2.1⟩))]
          have opn34 : ∀ x : Int32, (x = 3 ∨ x = 4) → d_opn c = x → ¬ (¬ d_opn c < 8 ∧ ¬ 10 < d_opn c) := by
            intro x hx e
            rw [e]
            rcases hx with y | y <;> rw [y] <;> decide
          have wr34 : (d_opn c = 3 ∨ d_opn c = 4) → (f_wr c ↔ d_field c = 0) := by
            intro h
            unfold f_wr
            by_cases h3 : d_opn c = 3
            · rw [if_pos h3]
            · rw [if_neg h3, if_pos (h.elim (fun z => absurd z h3) id)]
          have e131 : (d_opn c = 3 ∨ d_opn c = 4) → f_M_formFault_b131 0 M c (d_op c) (k_ri (d_op c)) (d_field c) (jishr (d_op c) 4) = some (M, ic (d_fam c = 6 ∧ d_rf c = 0 ∧ f_wr c) 3 V) := by
            intro h
            unfold f_M_formFault_b131
            by_cases z0 : d_field c = 0
            · rw [if_pos z0, ic_t ⟨fam6, d, (wr34 h).mpr z0⟩]
            · rw [if_neg z0, e138, ic_f (fun z => by
                rcases h with y | y
                · exact opn34 3 (Or.inl rfl) y ⟨z.1, z.2.1⟩
                · exact opn34 4 (Or.inr rfl) y ⟨z.1, z.2.1⟩), ic_f (fun z => z0 ((wr34 h).mp z.2.2))]
          by_cases h3 : jishr (d_op c) 4 = 3
          · rw [if_pos h3]
            have := e131 (Or.inl (w3.mp h3))
            exact this
          rw [if_neg h3]
          by_cases h9 : jishr (d_op c) 4 = 9
          · rw [if_pos h9]
            have := e131 (Or.inr (w9.mp h9))
            exact this
          rw [if_neg h9, e138]
          have n3 : ¬ d_opn c = 3 := fun z => h3 (w3.mpr z)
          have n4 : ¬ d_opn c = 4 := fun z => h9 (w9.mpr z)
          refine congrArg some (Prod.ext rfl (ic_c ?_))
          unfold f_wr
          rw [if_neg n3, if_neg n4]
          by_cases g1 : d_opn c < 8
          · rw [if_pos g1]
            exact ⟨fun z => absurd g1 z.1, fun z => z.2.2.elim⟩
          rw [if_neg g1]
          by_cases g2 : 10 < d_opn c
          · rw [if_pos g2]
            exact ⟨fun z => absurd g2 z.2.1, fun z => z.2.2.elim⟩
          rw [if_neg g2]
          exact ⟨fun z => ⟨fam6, d, z.2.2⟩, fun z => ⟨g1, g2, z.2.2⟩⟩
        · rw [if_neg d, ic_f (fun z => d z.2.1)]
      · rw [if_neg k6]
        refine congrArg some (Prod.ext rfl (ic_f ?_).symm)
        rintro ⟨z1, z2, z3⟩
        -- NEGATE, CUT, SWAP have no wrong FIELD here
        have o : d_opn c = 11 ∨ d_opn c = 14 ∨ d_opn c = 13 := by
          rw [kri, if_pos z1] at k6
          by_cases o1 : d_opn c = 11
          · exact Or.inl o1
          rw [if_neg o1] at k6
          by_cases o2 : d_opn c = 14
          · exact Or.inr (Or.inl o2)
          rw [if_neg o2] at k6
          by_cases o3 : d_opn c = 13
          · exact Or.inr (Or.inr o3)
          rw [if_neg o3] at k6
          exact absurd rfl k6
        unfold f_wr at z3
        rcases o with o | o | o <;> rw [o, if_neg (by decide), if_neg (by decide), if_neg (by decide), if_pos (by decide)] at z3 <;> exact z3
    have b61 : ∀ v : Int32, (¬ v = 0 ↔ (d_fam c = 1 ∨ d_fam c = 2 ∨ d_fam c = 6)) → f_M_formFault_b61 0 M c (d_op c) (k_ri (d_op c)) (d_field c) v = some (M, ic (10 < d_to c ∨ 10 < d_from c ∨ ((d_fam c = 1 ∨ d_fam c = 2 ∨ d_fam c = 6) ∧ d_to c = 10)) 2 (ic (d_fam c = 6 ∧ d_rf c = 0 ∧ f_wr c) 3 V)) := by
      intro v hv
      unfold f_M_formFault_b61
      rw [r_to, bd_some]
      by_cases a : 10 < d_to c
      · rw [if_pos a]
        exact congrArg some (Prod.ext rfl (ic_t (Or.inl a)).symm)
      rw [if_neg a, b86, bd_some]
      by_cases d : v = 0
      · rw [if_pos d]
        exact congrArg some (Prod.ext rfl (ic_c ⟨fun z => Or.inr (Or.inl z), fun z => z.elim (fun q => absurd q a) (fun q => q.elim id (fun y => absurd d (hv.mpr y.1)))⟩))
      rw [if_neg d]
      by_cases e : d_to c = 10
      · rw [if_pos e]
        exact congrArg some (Prod.ext rfl (ic_t (Or.inr (Or.inr ⟨hv.mp d, e⟩))).symm)
      · rw [if_neg e]
        exact congrArg some (Prod.ext rfl (ic_c ⟨fun z => Or.inr (Or.inl z), fun z => z.elim (fun q => absurd q a) (fun q => q.elim id (fun y => absurd y.2 e))⟩))
    unfold f_M_formFault_b56
    have y2 : k_ri (d_op c) = 2 ↔ d_fam c = 2 := by
      rw [eop]
      exact (show ∀ n, n < 256 → (k_ri (nI n) = 2 ↔ (kd (nI n)).1 = 2) by decide +kernel) op hop |>.trans (by rw [← eop]; rfl)
    have ya : ∃ v, f_M_isArithmetic (k_ri (d_op c)) = some v ∧ (¬ v = 0 ↔ d_fam c = 6) := by
      rw [eop]
      have := (show ∀ n, n < 256 → (f_M_isArithmetic (k_ri (nI n)) = some (if (kd (nI n)).1 = 6 then 1 else 0)) by decide +kernel) op hop
      refine ⟨_, this, ?_⟩
      rw [← eop]
      by_cases h : d_fam c = 6
      · rw [if_pos (show (kd (d_op c)).1 = 6 from h)]
        exact ⟨fun _ => h, fun _ => by decide⟩
      · rw [if_neg (show ¬ (kd (d_op c)).1 = 6 from h)]
        exact ⟨fun z => absurd rfl z, fun z => absurd z h⟩
    by_cases a1 : d_fam c = 1
    · rw [if_pos (y1.mpr a1)]; exact b61 1 ⟨fun _ => Or.inl a1, fun _ => by decide⟩
    rw [if_neg (fun z => a1 (y1.mp z))]
    by_cases a2 : d_fam c = 2
    · rw [if_pos (y2.mpr a2)]; exact b61 1 ⟨fun _ => Or.inr (Or.inl a2), fun _ => by decide⟩
    rw [if_neg (fun z => a2 (y2.mp z))]
    obtain ⟨v, v1, v2⟩ := ya
    rw [v1, bd_some]
    by_cases a6 : d_fam c = 6
    · rw [if_neg (v2.mpr a6)]; exact b61 1 ⟨fun _ => Or.inr (Or.inr a6), fun _ => by decide⟩
    · rw [if_pos (show v = 0 from Classical.byContradiction (fun z => a6 (v2.mp z)))]
      exact b61 0 ⟨fun z => absurd rfl z, fun z => by rcases z with z | z | z; exact absurd z a1; exact absurd z a2; exact absurd z a6⟩
  · rw [if_pos (b1_f s), ic_f s]
end RF
