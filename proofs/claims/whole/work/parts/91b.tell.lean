/-! PURE: what the class's relations tell of numbers is fn_tell. -/
section PT
variable {M : me_M} {j0 x y j i q : Nat} {n1 n2 n3 n4 n5 n6 o1 o2 o3 o4 o5 o6 a b c d e f v w : Int64}
theorem pw_raise : f_Num_raiseLeast M j v = some (wL M 11 j 2 (fn_max (mL M 11 j 2) v)) := by
  unfold f_Num_raiseLeast fn_max
  by_cases h : fn_lt (mL M 11 j 2) v
  · rw [if_pos h, if_pos h]; rfl
  · rw [if_neg h, if_neg h, pL_id]
theorem pw_lower : f_Num_lowerGreatest M j v = some (wL M 11 j 3 (fn_min (mL M 11 j 3) v)) := by
  unfold f_Num_lowerGreatest fn_min
  by_cases h : fn_lt v (mL M 11 j 3)
  · rw [if_pos h, if_pos h]; rfl
  · rw [if_neg h, if_neg h, pL_id]
theorem pw_bits : f_Num_bits M j v w = some (wL (wL M 11 j 0 v) 11 j 1 w) := rfl
/-- two numbers told, or none -/
def pr_o (M M0 : me_M) (x y : Nat) (r : fn_NN) : Option (me_M × Int32) := match r with
  | none => some (M0, 0)
  | some q => some (pn_t (pn_t M y q.2) x q.1, 1)
theorem pr_above (h : ¬ y = x) : f_Reckoner_above (pn_put (pn_put M y o1 o2 o3 o4 o5 o6) x n1 n2 n3 n4 n5 n6) j0 x y = pr_o M (pn_put (pn_put M y o1 o2 o3 o4 o5 o6) x n1 n2 n3 n4 n5 n6) x y (fn_above n1 n2 n3 n4 n5 n6 o1 o2 o3 o4 o5 o6) := by
  have h2 : ¬ x = y := fun z => h z.symm
  unfold f_Reckoner_above  fn_above pr_o pn_t
  simp only [st_eq, pn_L h, pn_L h2, pn_0, pn_1, pn_2, pn_3, pn_4, pn_5, pn_wc h, pn_wc h2, pn_w0, pn_w1, pn_w2, pn_w3, pn_w4, pn_w5, bd_some, b2_some, pw_raise, pw_lower, pw_bits, pf_isExact0, pf_bc, pf_ite1, pf_Num_copy h2, pn_cm h, pn_two]
  by_cases g1 : o3 = -1 <;> by_cases g2 : n4 = 0 <;> simp [g1, g2]
theorem pr_nbelow (h : ¬ y = x) : f_Reckoner_notBelow (pn_put (pn_put M y o1 o2 o3 o4 o5 o6) x n1 n2 n3 n4 n5 n6) j0 x y = pr_o M (pn_put (pn_put M y o1 o2 o3 o4 o5 o6) x n1 n2 n3 n4 n5 n6) x y (fn_nbelow n1 n2 n3 n4 n5 n6 o1 o2 o3 o4 o5 o6) := by
  have h2 : ¬ x = y := fun z => h z.symm
  unfold f_Reckoner_notBelow  fn_nbelow pr_o pn_t
  simp only [st_eq, pn_L h, pn_L h2, pn_0, pn_1, pn_2, pn_3, pn_4, pn_5, pn_wc h, pn_wc h2, pn_w0, pn_w1, pn_w2, pn_w3, pn_w4, pn_w5, bd_some, b2_some, pw_raise, pw_lower, pw_bits, pf_isExact0, pf_bc, pf_ite1, pf_Num_copy h2, pn_cm h, pn_two]
  skip
theorem pr_greater (h : ¬ y = x) : f_Reckoner_greater (pn_put (pn_put M y o1 o2 o3 o4 o5 o6) x n1 n2 n3 n4 n5 n6) j0 x y = pr_o M (pn_put (pn_put M y o1 o2 o3 o4 o5 o6) x n1 n2 n3 n4 n5 n6) x y (fn_greater n1 n2 n3 n4 n5 n6 o1 o2 o3 o4 o5 o6) := by
  have h2 : ¬ x = y := fun z => h z.symm
  unfold f_Reckoner_greater  fn_greater pr_o pn_t
  simp only [st_eq, pn_L h, pn_L h2, pn_0, pn_1, pn_2, pn_3, pn_4, pn_5, pn_wc h, pn_wc h2, pn_w0, pn_w1, pn_w2, pn_w3, pn_w4, pn_w5, bd_some, b2_some, pw_raise, pw_lower, pw_bits, pf_isExact0, pf_bc, pf_ite1, pf_Num_copy h2, pn_cm h, pn_two]
  by_cases g1 : o5 = 9223372036854775807 <;> by_cases g2 : n6 = -9223372036854775808 <;> simp [g1, g2, fn_smax, fn_smin, jlmax, jlmin]
theorem pr_nless (h : ¬ y = x) : f_Reckoner_notLess (pn_put (pn_put M y o1 o2 o3 o4 o5 o6) x n1 n2 n3 n4 n5 n6) j0 x y = pr_o M (pn_put (pn_put M y o1 o2 o3 o4 o5 o6) x n1 n2 n3 n4 n5 n6) x y (fn_nless n1 n2 n3 n4 n5 n6 o1 o2 o3 o4 o5 o6) := by
  have h2 : ¬ x = y := fun z => h z.symm
  unfold f_Reckoner_notLess  fn_nless pr_o pn_t
  simp only [st_eq, pn_L h, pn_L h2, pn_0, pn_1, pn_2, pn_3, pn_4, pn_5, pn_wc h, pn_wc h2, pn_w0, pn_w1, pn_w2, pn_w3, pn_w4, pn_w5, bd_some, b2_some, pw_raise, pw_lower, pw_bits, pf_isExact0, pf_bc, pf_ite1, pf_Num_copy h2, pn_cm h, pn_two]
  simp [fn_smax, fn_smin, jlmax, jlmin]
theorem pr_same (h : ¬ y = x) : f_Reckoner_same (pn_put (pn_put M y o1 o2 o3 o4 o5 o6) x n1 n2 n3 n4 n5 n6) j0 x y = pr_o M (pn_put (pn_put M y o1 o2 o3 o4 o5 o6) x n1 n2 n3 n4 n5 n6) x y (fn_same n1 n2 n3 n4 n5 n6 o1 o2 o3 o4 o5 o6) := by
  have h2 : ¬ x = y := fun z => h z.symm
  unfold f_Reckoner_same  fn_same pr_o pn_t
  simp only [st_eq, pn_L h, pn_L h2, pn_0, pn_1, pn_2, pn_3, pn_4, pn_5, pn_wc h, pn_wc h2, pn_w0, pn_w1, pn_w2, pn_w3, pn_w4, pn_w5, bd_some, b2_some, pw_raise, pw_lower, pw_bits, pf_isExact0, pf_bc, pf_ite1, pf_Num_copy h2, pn_cm h, pn_two]
  by_cases g1 : ((n1 ^^^ o1) &&& (n2 ^^^ -1)) &&& (o2 ^^^ -1) = 0 <;> simp only [g1, if_true, if_false, fn_smax, fn_smin, jlmax, jlmin]
theorem pr_meet (h : ¬ y = x) : f_Reckoner_meet (pn_put (pn_put M y o1 o2 o3 o4 o5 o6) x n1 n2 n3 n4 n5 n6) j0 x y = pr_o M (pn_put (pn_put M y o1 o2 o3 o4 o5 o6) x n1 n2 n3 n4 n5 n6) x y (fn_meet n1 n2 n3 n4 n5 n6 o1 o2 o3 o4 o5 o6) := by
  have h2 : ¬ x = y := fun z => h z.symm
  unfold f_Reckoner_meet f_Reckoner_meet_b22 f_Reckoner_meet_b23 f_Reckoner_meet_b100 fn_meet pr_o pn_t
  simp only [st_eq, pn_L h, pn_L h2, pn_0, pn_1, pn_2, pn_3, pn_4, pn_5, pn_wc h, pn_wc h2, pn_w0, pn_w1, pn_w2, pn_w3, pn_w4, pn_w5, bd_some, b2_some, pw_raise, pw_lower, pw_bits, pf_isExact0, pf_bc, pf_ite1, pf_Num_copy h2, pn_cm h, pn_two]
  generalize (n1 ||| n2) &&& (o1 ||| o2) = z
  by_cases g1 : n2 = 0 <;> by_cases g2 : fn_bc n1 = 1 <;> by_cases g3 : z = 0 <;> by_cases g4 : o2 = 0 <;> by_cases g5 : fn_bc o1 = 1 <;> simp only [g1, g2, g3, g4, g5, fn_meet1, if_true, if_false, not_true, not_false_iff, st_eq, pn_L h, pn_L h2, pn_0, pn_1, pn_2, pn_3, pn_4, pn_5, pn_wc h, pn_wc h2, pn_w0, pn_w1, pn_w2, pn_w3, pn_w4, pn_w5, bd_some, b2_some, pw_raise, pw_lower, pw_bits, pf_isExact0, pf_bc, pf_ite1, pf_Num_copy h2, pn_cm h, pn_two, show ¬ (1 : Int32) = 0 from by decide]
theorem pr_nmeet (h : ¬ y = x) : f_Reckoner_notMeet (pn_put (pn_put M y o1 o2 o3 o4 o5 o6) x n1 n2 n3 n4 n5 n6) j0 x y = pr_o M (pn_put (pn_put M y o1 o2 o3 o4 o5 o6) x n1 n2 n3 n4 n5 n6) x y (fn_nmeet n1 n2 n3 n4 n5 n6 o1 o2 o3 o4 o5 o6) := by
  have h2 : ¬ x = y := fun z => h z.symm
  unfold f_Reckoner_notMeet f_Reckoner_notMeet_b45 fn_nmeet pr_o pn_t
  simp only [st_eq, pn_L h, pn_L h2, pn_0, pn_1, pn_2, pn_3, pn_4, pn_5, pn_wc h, pn_wc h2, pn_w0, pn_w1, pn_w2, pn_w3, pn_w4, pn_w5, bd_some, b2_some, pw_raise, pw_lower, pw_bits, pf_isExact0, pf_bc, pf_ite1, pf_Num_copy h2, pn_cm h, pn_two]
  by_cases g1 : n2 = 0 <;> by_cases g2 : n1 &&& o1 = 0 <;> by_cases g3 : o2 = 0 <;> simp only [g1, g2, g3, if_true, if_false, not_true, not_false_iff, st_eq, pn_L h, pn_L h2, pn_0, pn_1, pn_2, pn_3, pn_4, pn_5, pn_wc h, pn_wc h2, pn_w0, pn_w1, pn_w2, pn_w3, pn_w4, pn_w5, bd_some, b2_some, pw_raise, pw_lower, pw_bits, pf_isExact0, pf_bc, pf_ite1, pf_Num_copy h2, pn_cm h, pn_two, show ¬ (1 : Int32) = 0 from by decide]
theorem pr_exc : f_Reckoner_exclude (pn_put M x n1 n2 n3 n4 n5 n6) j0 x v = match fn_exc n1 n2 n3 n4 n5 n6 v with
    | none => some (pn_put M x n1 n2 n3 n4 n5 n6, 0)
    | some q => some (pn_t M x q, 1) := by
  have key : f_Reckoner_exclude_b20 x v (pn_put M x n1 n2 n3 n4 n5 n6) = some (pn_put M x n1 n2 (n3 + (if n3 = v then 1 else 0)) (n4 - (if n4 = v then 1 else 0)) (n5 + (if n5 = v then 1 else 0)) (n6 - (if n6 = v then 1 else 0)), 1) := by
    unfold f_Reckoner_exclude_b20 f_Reckoner_exclude_b39 f_Reckoner_exclude_b62 f_Reckoner_exclude_b85
    simp only [st_eq, pn_2, pn_3, pn_4, pn_5, pn_w2, pn_w3, pn_w4, pn_w5]
    by_cases g1 : n3 = v <;> by_cases g2 : n4 = v <;> by_cases g3 : n5 = v <;> by_cases g4 : n6 = v <;> simp only [g1, g2, g3, g4, if_true, if_false]
  unfold f_Reckoner_exclude fn_exc pn_t
  rw [key]
  simp only [pn_0, pn_1]
  by_cases g1 : n2 = 0 <;> by_cases g2 : n1 = v <;> simp [g1, g2]
theorem pr_nsame (h : ¬ y = x) : ∃ M1 r, f_Reckoner_notSame (pn_put (pn_put M y o1 o2 o3 o4 o5 o6) x n1 n2 n3 n4 n5 n6) j0 x y = some (M1, r) ∧ pq (fun i => i = x ∨ i = y) M M1 ∧ match fn_nsame n1 n2 n3 n4 n5 n6 o1 o2 o3 o4 o5 o6 with
    | none => r = 0
    | some q => r = 1 ∧ M1 = pn_t (pn_t M y q.2) x q.1 := by
  have h2 : ¬ x = y := fun z => h z.symm
  have tail : ∀ (z : fn_N), ∃ M1 r, f_Reckoner_notSame_b32 j0 y (pn_t (pn_put M y o1 o2 o3 o4 o5 o6) x z) (if n2 = 0 then 1 else 0) n1 = some (M1, r) ∧ pq (fun i => i = x ∨ i = y) M M1 ∧ match fn_nsame1 n1 n2 o1 o2 o3 o4 o5 o6 z with
      | none => r = 0
      | some q => r = 1 ∧ M1 = pn_t (pn_t M y q.2) x q.1 := by
    intro z
    unfold f_Reckoner_notSame_b32 fn_nsame1
    rw [show pn_t (pn_put M y o1 o2 o3 o4 o5 o6) x z = pn_put (pn_t M x z) y o1 o2 o3 o4 o5 o6 from pn_cm h2]
    by_cases g : n2 = 0
    · rw [if_pos g, if_neg (by decide), if_pos g, pr_exc]
      cases fn_exc o1 o2 o3 o4 o5 o6 n1 with
      | none =>
        rw [b2_some]
        exact ⟨_, _, rfl, pq_trans (pq_t (Or.inl rfl)) (pq_t (x := (_, _, _, _, _, _)) (Or.inr rfl)), rfl⟩
      | some w =>
        rw [b2_some, if_neg (by decide)]
        exact ⟨_, _, rfl, pq_trans (pq_t (Or.inl rfl)) (pq_t (Or.inr rfl)), rfl, pn_cm h⟩
    · rw [if_neg g, if_pos rfl, if_neg g]
      exact ⟨_, _, rfl, pq_trans (pq_t (Or.inl rfl)) (pq_t (x := (_, _, _, _, _, _)) (Or.inr rfl)), rfl, pn_cm h⟩
  unfold f_Reckoner_notSame fn_nsame
  simp only [st_eq, pf_isExact0, b2_some, pn_L h, pn_0, pn_1]
  by_cases g : o2 = 0
  · rw [if_pos g, if_neg (by decide), if_pos g, pr_exc]
    cases fn_exc n1 n2 n3 n4 n5 n6 o1 with
    | none =>
      rw [b2_some]
      exact ⟨_, _, rfl, pq_trans (pq_t (x := (_, _, _, _, _, _)) (Or.inr rfl)) (pq_t (x := (_, _, _, _, _, _)) (Or.inl rfl)), rfl⟩
    | some w =>
      rw [b2_some, if_neg (by decide)]
      exact tail w
  · rw [if_neg g, if_pos rfl, if_neg g]
    exact tail (_, _, _, _, _, _)
/-- two numbers told as r says, or none -/
def pr_p (M : me_M) (x y : Nat) (m : Option (me_M × Int32)) (r : fn_NN) : Prop := ∃ M1 z, m = some (M1, z) ∧ pq (fun i => i = x ∨ i = y) M M1 ∧ match r with
  | none => z = 0
  | some q => z = 1 ∧ pg M1 x = q.1 ∧ pg M1 y = q.2
theorem pr_p_o {r : fn_NN} {m : Option (me_M × Int32)} (h : ¬ x = y) (hm : m = pr_o M M x y r) : pr_p M x y m r := by
  subst hm
  cases r with
  | none => exact ⟨M, 0, rfl, pq_refl, rfl⟩
  | some q => exact ⟨_, 1, rfl, pq_trans (pq_t (Or.inr rfl)) (pq_t (Or.inl rfl)), rfl, pg_t, (pg_L (fun z => h z.symm)).trans pg_t⟩
theorem pr_p_t {r : fn_NN} {m : Option (me_M × Int32)} (h : pr_p M y x m r) : pr_p M x y m (fn_turn r) := by
  obtain ⟨M1, z, h1, h2, h3⟩ := h
  refine ⟨M1, z, h1, pq_mono h2 (fun i hi => hi.symm), ?_⟩
  cases r with
  | none => exact h3
  | some q => exact ⟨h3.1, h3.2.2, h3.2.1⟩
theorem pr_set (h : ¬ x = y) {m : Option (me_M × Int32)} {r : fn_NN} (hm : pr_p M x y m r) : pr_p M x y (b2 m (fun M1 z => f_Reckoner_tellWide_b189 x y M1 z)) (fn_sets r) := by
  obtain ⟨M1, z, h1, h2, h3⟩ := hm
  rw [h1, b2_some]
  unfold f_Reckoner_tellWide_b189
  cases r with
  | none =>
    rw [if_pos h3]
    exact ⟨_, _, rfl, h2, rfl⟩
  | some q =>
    obtain ⟨rfl, hx, hy⟩ := h3
    rw [if_neg (by decide)]
    cases e1 : fn_it 3 q.1 with
    | none =>
      obtain ⟨w, hw⟩ := pt_settle_none (M := M1) (j := x) (by rw [hx]; exact e1)
      rw [hw, b2_some, if_pos rfl, fn_sets_1 (x := q.1) (y := q.2) rfl e1]
      exact ⟨_, _, rfl, pq_trans h2 (pq_t (Or.inl rfl)), rfl⟩
    | some a =>
      rw [pt_settle_some (x := a) (by rw [hx]; exact e1), b2_some, if_neg (by decide)]
      have hy2 : pg (pn_t M1 x a) y = q.2 := (pg_L (fun z => h z.symm)).trans hy
      cases e2 : fn_it 3 q.2 with
      | none =>
        obtain ⟨w, hw⟩ := pt_settle_none (M := pn_t M1 x a) (j := y) (by rw [hy2]; exact e2)
        rw [hw, b2_some, if_pos rfl, fn_sets_2 (x := q.1) (y := q.2) rfl e1 e2]
        exact ⟨_, _, rfl, pq_trans (pq_trans h2 (pq_t (Or.inl rfl))) (pq_t (Or.inr rfl)), rfl⟩
      | some b =>
        rw [pt_settle_some (x := b) (by rw [hy2]; exact e2), b2_some, if_neg (by decide), fn_sets_s (x := q.1) (y := q.2) rfl e1 e2]
        exact ⟨_, _, rfl, pq_trans (pq_trans h2 (pq_t (Or.inl rfl))) (pq_t (Or.inr rfl)), rfl, (pg_L h).trans pg_t, pg_t⟩
theorem pr_id (h : ¬ y = x) : pn_put (pn_put M y (mL M 11 y 0) (mL M 11 y 1) (mL M 11 y 2) (mL M 11 y 3) (mL M 11 y 4) (mL M 11 y 5)) x (mL M 11 x 0) (mL M 11 x 1) (mL M 11 x 2) (mL M 11 x 3) (mL M 11 x 4) (mL M 11 x 5) = M := by
  rw [pn_id, pn_id]
theorem pr_telw {op : Int32} (h : ¬ x = y) : pr_p M x y (f_Reckoner_tellWide M j0 op x y) (fn_telw op (pg M x) (pg M y)) := by
  have h2 : ¬ y = x := fun z => h z.symm
  have k0 : pr_p M x y (f_Reckoner_same M j0 x y) (fn_same (mL M 11 x 0) (mL M 11 x 1) (mL M 11 x 2) (mL M 11 x 3) (mL M 11 x 4) (mL M 11 x 5) (mL M 11 y 0) (mL M 11 y 1) (mL M 11 y 2) (mL M 11 y 3) (mL M 11 y 4) (mL M 11 y 5)) := by
    have q := pr_same (M := M) (j0 := j0) (x := x) (y := y) (n1 := mL M 11 x 0) (n2 := mL M 11 x 1) (n3 := mL M 11 x 2) (n4 := mL M 11 x 3) (n5 := mL M 11 x 4) (n6 := mL M 11 x 5) (o1 := mL M 11 y 0) (o2 := mL M 11 y 1) (o3 := mL M 11 y 2) (o4 := mL M 11 y 3) (o5 := mL M 11 y 4) (o6 := mL M 11 y 5) h2
    rw [pr_id h2] at q
    exact pr_p_o (fun z => h2 z.symm) q
  have k1 : pr_p M x y (f_Reckoner_above M j0 x y) (fn_above (mL M 11 x 0) (mL M 11 x 1) (mL M 11 x 2) (mL M 11 x 3) (mL M 11 x 4) (mL M 11 x 5) (mL M 11 y 0) (mL M 11 y 1) (mL M 11 y 2) (mL M 11 y 3) (mL M 11 y 4) (mL M 11 y 5)) := by
    have q := pr_above (M := M) (j0 := j0) (x := x) (y := y) (n1 := mL M 11 x 0) (n2 := mL M 11 x 1) (n3 := mL M 11 x 2) (n4 := mL M 11 x 3) (n5 := mL M 11 x 4) (n6 := mL M 11 x 5) (o1 := mL M 11 y 0) (o2 := mL M 11 y 1) (o3 := mL M 11 y 2) (o4 := mL M 11 y 3) (o5 := mL M 11 y 4) (o6 := mL M 11 y 5) h2
    rw [pr_id h2] at q
    exact pr_p_o (fun z => h2 z.symm) q
  have k2 : pr_p M x y (f_Reckoner_notBelow M j0 x y) (fn_nbelow (mL M 11 x 0) (mL M 11 x 1) (mL M 11 x 2) (mL M 11 x 3) (mL M 11 x 4) (mL M 11 x 5) (mL M 11 y 0) (mL M 11 y 1) (mL M 11 y 2) (mL M 11 y 3) (mL M 11 y 4) (mL M 11 y 5)) := by
    have q := pr_nbelow (M := M) (j0 := j0) (x := x) (y := y) (n1 := mL M 11 x 0) (n2 := mL M 11 x 1) (n3 := mL M 11 x 2) (n4 := mL M 11 x 3) (n5 := mL M 11 x 4) (n6 := mL M 11 x 5) (o1 := mL M 11 y 0) (o2 := mL M 11 y 1) (o3 := mL M 11 y 2) (o4 := mL M 11 y 3) (o5 := mL M 11 y 4) (o6 := mL M 11 y 5) h2
    rw [pr_id h2] at q
    exact pr_p_o (fun z => h2 z.symm) q
  have k3 : pr_p M x y (f_Reckoner_meet M j0 x y) (fn_meet (mL M 11 x 0) (mL M 11 x 1) (mL M 11 x 2) (mL M 11 x 3) (mL M 11 x 4) (mL M 11 x 5) (mL M 11 y 0) (mL M 11 y 1) (mL M 11 y 2) (mL M 11 y 3) (mL M 11 y 4) (mL M 11 y 5)) := by
    have q := pr_meet (M := M) (j0 := j0) (x := x) (y := y) (n1 := mL M 11 x 0) (n2 := mL M 11 x 1) (n3 := mL M 11 x 2) (n4 := mL M 11 x 3) (n5 := mL M 11 x 4) (n6 := mL M 11 x 5) (o1 := mL M 11 y 0) (o2 := mL M 11 y 1) (o3 := mL M 11 y 2) (o4 := mL M 11 y 3) (o5 := mL M 11 y 4) (o6 := mL M 11 y 5) h2
    rw [pr_id h2] at q
    exact pr_p_o (fun z => h2 z.symm) q
  have k5 : pr_p M x y (f_Reckoner_greater M j0 x y) (fn_greater (mL M 11 x 0) (mL M 11 x 1) (mL M 11 x 2) (mL M 11 x 3) (mL M 11 x 4) (mL M 11 x 5) (mL M 11 y 0) (mL M 11 y 1) (mL M 11 y 2) (mL M 11 y 3) (mL M 11 y 4) (mL M 11 y 5)) := by
    have q := pr_greater (M := M) (j0 := j0) (x := x) (y := y) (n1 := mL M 11 x 0) (n2 := mL M 11 x 1) (n3 := mL M 11 x 2) (n4 := mL M 11 x 3) (n5 := mL M 11 x 4) (n6 := mL M 11 x 5) (o1 := mL M 11 y 0) (o2 := mL M 11 y 1) (o3 := mL M 11 y 2) (o4 := mL M 11 y 3) (o5 := mL M 11 y 4) (o6 := mL M 11 y 5) h2
    rw [pr_id h2] at q
    exact pr_p_o (fun z => h2 z.symm) q
  have k6 : pr_p M x y (f_Reckoner_notLess M j0 x y) (fn_nless (mL M 11 x 0) (mL M 11 x 1) (mL M 11 x 2) (mL M 11 x 3) (mL M 11 x 4) (mL M 11 x 5) (mL M 11 y 0) (mL M 11 y 1) (mL M 11 y 2) (mL M 11 y 3) (mL M 11 y 4) (mL M 11 y 5)) := by
    have q := pr_nless (M := M) (j0 := j0) (x := x) (y := y) (n1 := mL M 11 x 0) (n2 := mL M 11 x 1) (n3 := mL M 11 x 2) (n4 := mL M 11 x 3) (n5 := mL M 11 x 4) (n6 := mL M 11 x 5) (o1 := mL M 11 y 0) (o2 := mL M 11 y 1) (o3 := mL M 11 y 2) (o4 := mL M 11 y 3) (o5 := mL M 11 y 4) (o6 := mL M 11 y 5) h2
    rw [pr_id h2] at q
    exact pr_p_o (fun z => h2 z.symm) q
  have k7 : pr_p M y x (f_Reckoner_above M j0 y x) (fn_above (mL M 11 y 0) (mL M 11 y 1) (mL M 11 y 2) (mL M 11 y 3) (mL M 11 y 4) (mL M 11 y 5) (mL M 11 x 0) (mL M 11 x 1) (mL M 11 x 2) (mL M 11 x 3) (mL M 11 x 4) (mL M 11 x 5)) := by
    have q := pr_above (M := M) (j0 := j0) (x := y) (y := x) (n1 := mL M 11 y 0) (n2 := mL M 11 y 1) (n3 := mL M 11 y 2) (n4 := mL M 11 y 3) (n5 := mL M 11 y 4) (n6 := mL M 11 y 5) (o1 := mL M 11 x 0) (o2 := mL M 11 x 1) (o3 := mL M 11 x 2) (o4 := mL M 11 x 3) (o5 := mL M 11 x 4) (o6 := mL M 11 x 5) h
    rw [pr_id h] at q
    exact pr_p_o (fun z => h z.symm) q
  have k8 : pr_p M y x (f_Reckoner_notBelow M j0 y x) (fn_nbelow (mL M 11 y 0) (mL M 11 y 1) (mL M 11 y 2) (mL M 11 y 3) (mL M 11 y 4) (mL M 11 y 5) (mL M 11 x 0) (mL M 11 x 1) (mL M 11 x 2) (mL M 11 x 3) (mL M 11 x 4) (mL M 11 x 5)) := by
    have q := pr_nbelow (M := M) (j0 := j0) (x := y) (y := x) (n1 := mL M 11 y 0) (n2 := mL M 11 y 1) (n3 := mL M 11 y 2) (n4 := mL M 11 y 3) (n5 := mL M 11 y 4) (n6 := mL M 11 y 5) (o1 := mL M 11 x 0) (o2 := mL M 11 x 1) (o3 := mL M 11 x 2) (o4 := mL M 11 x 3) (o5 := mL M 11 x 4) (o6 := mL M 11 x 5) h
    rw [pr_id h] at q
    exact pr_p_o (fun z => h z.symm) q
  have k9 : pr_p M y x (f_Reckoner_greater M j0 y x) (fn_greater (mL M 11 y 0) (mL M 11 y 1) (mL M 11 y 2) (mL M 11 y 3) (mL M 11 y 4) (mL M 11 y 5) (mL M 11 x 0) (mL M 11 x 1) (mL M 11 x 2) (mL M 11 x 3) (mL M 11 x 4) (mL M 11 x 5)) := by
    have q := pr_greater (M := M) (j0 := j0) (x := y) (y := x) (n1 := mL M 11 y 0) (n2 := mL M 11 y 1) (n3 := mL M 11 y 2) (n4 := mL M 11 y 3) (n5 := mL M 11 y 4) (n6 := mL M 11 y 5) (o1 := mL M 11 x 0) (o2 := mL M 11 x 1) (o3 := mL M 11 x 2) (o4 := mL M 11 x 3) (o5 := mL M 11 x 4) (o6 := mL M 11 x 5) h
    rw [pr_id h] at q
    exact pr_p_o (fun z => h z.symm) q
  have k10 : pr_p M y x (f_Reckoner_notLess M j0 y x) (fn_nless (mL M 11 y 0) (mL M 11 y 1) (mL M 11 y 2) (mL M 11 y 3) (mL M 11 y 4) (mL M 11 y 5) (mL M 11 x 0) (mL M 11 x 1) (mL M 11 x 2) (mL M 11 x 3) (mL M 11 x 4) (mL M 11 x 5)) := by
    have q := pr_nless (M := M) (j0 := j0) (x := y) (y := x) (n1 := mL M 11 y 0) (n2 := mL M 11 y 1) (n3 := mL M 11 y 2) (n4 := mL M 11 y 3) (n5 := mL M 11 y 4) (n6 := mL M 11 y 5) (o1 := mL M 11 x 0) (o2 := mL M 11 x 1) (o3 := mL M 11 x 2) (o4 := mL M 11 x 3) (o5 := mL M 11 x 4) (o6 := mL M 11 x 5) h
    rw [pr_id h] at q
    exact pr_p_o (fun z => h z.symm) q
  have k11 : pr_p M x y (f_Reckoner_notMeet M j0 x y) (fn_nmeet (mL M 11 x 0) (mL M 11 x 1) (mL M 11 x 2) (mL M 11 x 3) (mL M 11 x 4) (mL M 11 x 5) (mL M 11 y 0) (mL M 11 y 1) (mL M 11 y 2) (mL M 11 y 3) (mL M 11 y 4) (mL M 11 y 5)) := by
    have q := pr_nmeet (M := M) (j0 := j0) (x := x) (y := y) (n1 := mL M 11 x 0) (n2 := mL M 11 x 1) (n3 := mL M 11 x 2) (n4 := mL M 11 x 3) (n5 := mL M 11 x 4) (n6 := mL M 11 x 5) (o1 := mL M 11 y 0) (o2 := mL M 11 y 1) (o3 := mL M 11 y 2) (o4 := mL M 11 y 3) (o5 := mL M 11 y 4) (o6 := mL M 11 y 5) h2
    rw [pr_id h2] at q
    exact pr_p_o (fun z => h2 z.symm) q
  have k4 : pr_p M x y (f_Reckoner_notSame M j0 x y) (fn_nsame (mL M 11 x 0) (mL M 11 x 1) (mL M 11 x 2) (mL M 11 x 3) (mL M 11 x 4) (mL M 11 x 5) (mL M 11 y 0) (mL M 11 y 1) (mL M 11 y 2) (mL M 11 y 3) (mL M 11 y 4) (mL M 11 y 5)) := by
    obtain ⟨M1, r, h1, h3, h4⟩ := pr_nsame (M := M) (j0 := j0) (x := x) (y := y) (n1 := mL M 11 x 0) (n2 := mL M 11 x 1) (n3 := mL M 11 x 2) (n4 := mL M 11 x 3) (n5 := mL M 11 x 4) (n6 := mL M 11 x 5) (o1 := mL M 11 y 0) (o2 := mL M 11 y 1) (o3 := mL M 11 y 2) (o4 := mL M 11 y 3) (o5 := mL M 11 y 4) (o6 := mL M 11 y 5) h2
    rw [pr_id h2] at h1
    refine ⟨M1, r, h1, h3, ?_⟩
    revert h4
    cases fn_nsame (mL M 11 x 0) (mL M 11 x 1) (mL M 11 x 2) (mL M 11 x 3) (mL M 11 x 4) (mL M 11 x 5) (mL M 11 y 0) (mL M 11 y 1) (mL M 11 y 2) (mL M 11 y 3) (mL M 11 y 4) (mL M 11 y 5) with
    | none => exact fun z => z
    | some q => exact fun z => ⟨z.1, by rw [z.2]; exact pg_t, by rw [z.2]; exact (pg_L h2).trans pg_t⟩
  unfold f_Reckoner_tellWide fn_telw fn_relT fn_rel
  by_cases e : op = 0
  · rw [if_pos e, if_pos e]; exact pr_set h k0
  rw [if_neg e, if_neg e]
  by_cases e : op = 1
  · rw [if_pos e, if_pos e]; exact pr_set h k1
  rw [if_neg e, if_neg e]
  by_cases e : op = 2
  · rw [if_pos e, if_pos e]; exact pr_set h k2
  rw [if_neg e, if_neg e]
  by_cases e : op = 3
  · rw [if_pos e, if_pos e]; exact pr_set h k3
  rw [if_neg e, if_neg e]
  by_cases e : op = 4
  · rw [if_pos e, if_pos e]; exact pr_set h k4
  rw [if_neg e, if_neg e]
  by_cases e : op = 5
  · rw [if_pos e, if_pos e]; exact pr_set h k5
  rw [if_neg e, if_neg e]
  by_cases e : op = 6
  · rw [if_pos e, if_pos e]; exact pr_set h k6
  rw [if_neg e, if_neg e]
  by_cases e : op = 7
  · rw [if_pos e, if_pos e]; exact pr_set h (pr_p_t k7)
  rw [if_neg e, if_neg e]
  by_cases e : op = 8
  · rw [if_pos e, if_pos e]; exact pr_set h (pr_p_t k8)
  rw [if_neg e, if_neg e]
  by_cases e : op = 9
  · rw [if_pos e, if_pos e]; exact pr_set h (pr_p_t k9)
  rw [if_neg e, if_neg e]
  by_cases e : op = 10
  · rw [if_pos e, if_pos e]; exact pr_set h (pr_p_t k10)
  rw [if_neg e, if_neg e]
  exact pr_set h k11
end PT
/-- telling of two numbers; what the Reckoner has for itself may change -/
theorem pr_tell {M : me_M} {op nar : Int32} {x y : Nat} (hs : ps_R M) (hx : 4 < x) (hy : 4 < y) (h : ¬ x = y) : ∃ M1 z, f_Reckoner_tell M 0 op x y nar = some (M1, z) ∧ pq (fun i => i = 0 ∨ i = 1 ∨ i = x ∨ i = y) M M1 ∧ match fn_tell op nar (pg M x) (pg M y) with
  | none => z = 0
  | some q => z = 1 ∧ pg M1 x = q.1 ∧ pg M1 y = q.2 := by
  have wide : ∃ M1 z, b2 (f_Reckoner_tellWide M 0 op x y) (fun M1 r => some (M1, r)) = some (M1, z) ∧ pq (fun i => i = 0 ∨ i = 1 ∨ i = x ∨ i = y) M M1 ∧ match fn_telw op (pg M x) (pg M y) with
      | none => z = 0
      | some q => z = 1 ∧ pg M1 x = q.1 ∧ pg M1 y = q.2 := by
    obtain ⟨M1, z, h1, h2, h3⟩ := pr_telw (M := M) (j0 := 0) (op := op) h
    rw [h1, b2_some]
    exact ⟨M1, z, rfl, pq_mono h2 (by intro i hi; rcases hi with r | r <;> simp [r]), h3⟩
  have b77 : ∀ sg : Int32, ∃ M1 z, f_Reckoner_tell_b77 0 op x y M sg = some (M1, z) ∧ pq (fun i => i = 0 ∨ i = 1 ∨ i = x ∨ i = y) M M1 ∧ match (if sg = 0 then (fn_telw op (fn_narT (pg M x)) (fn_narT (pg M y))).map (fun _ => (pg M x, pg M y)) else some (pg M x, pg M y) : fn_NN) with
      | none => z = 0
      | some q => z = 1 ∧ pg M1 x = q.1 ∧ pg M1 y = q.2 := by
    intro sg
    unfold f_Reckoner_tell_b77
    by_cases g : sg = 0
    · rw [if_pos g, if_pos g, hs.1, bd_some, pt_copy (by omega), bd_some]
      obtain ⟨M2, a1, a2, a3⟩ := pt_narrow (M := pn_t M 0 (pg M x)) (j := 0) (j0 := 0)
      rw [a1, bd_some, hs.2.1, bd_some, pt_copy (by omega), bd_some]
      obtain ⟨M3, b1, b2', b3⟩ := pt_narrow (M := pn_t M2 1 (pg M2 y)) (j := 1) (j0 := 0)
      rw [b1, bd_some]
      obtain ⟨M4, z, c1, c2, c3⟩ := pr_telw (M := M3) (j0 := 0) (op := op) (x := 0) (y := 1) (by decide)
      rw [c1, b2_some]
      have q0 : pq (fun i => i = 0 ∨ i = 1) M M2 := pq_trans (pq_t (Or.inl rfl)) (pq_mono a3 (fun i hi => Or.inl hi))
      have q1 : pq (fun i => i = 0 ∨ i = 1) M M3 := pq_trans (pq_trans q0 (pq_t (Or.inr rfl))) (pq_mono b3 (fun i hi => Or.inr hi))
      have q2 : pq (fun i => i = 0 ∨ i = 1) M M4 := pq_trans q1 c2
      have e2y : pg M2 y = pg M y := pq_g q0 (by omega)
      have e0 : pg M3 0 = fn_narT (pg M x) := by
        rw [pq_g b3 (by decide), pg_L (by decide), a2, pg_t]
      have e1 : pg M3 1 = fn_narT (pg M y) := by rw [b2', pg_t, e2y]
      refine ⟨M4, z, rfl, pq_mono q2 (by intro i hi; rcases hi with r | r <;> simp [r]), ?_⟩
      rw [e0, e1] at c3
      revert c3
      cases fn_telw op (fn_narT (pg M x)) (fn_narT (pg M y)) with
      | none => exact fun w => w
      | some q => exact fun w => ⟨w.1, pq_g q2 (by omega), pq_g q2 (by omega)⟩
    · rw [if_neg g, if_neg g]
      exact ⟨M, 1, rfl, pq_refl, rfl, rfl, rfl⟩
  have b44 : ∀ (sg : Int32) (mo : Int64), (fn_sgn op ↔ ¬ sg = 0) → fn_most op = mo → ∃ M1 z, f_Reckoner_tell_b44 0 op x y nar M sg mo = some (M1, z) ∧ pq (fun i => i = 0 ∨ i = 1 ∨ i = x ∨ i = y) M M1 ∧ match fn_tell op nar (pg M x) (pg M y) with
      | none => z = 0
      | some q => z = 1 ∧ pg M1 x = q.1 ∧ pg M1 y = q.2 := by
    intro sg mo hg hm
    unfold f_Reckoner_tell_b44 fn_tell
    rw [hm]
    by_cases g : nar = 0
    · rw [if_pos g, if_pos g]; exact wide
    rw [if_neg g, if_neg g, pf_isAbove, b2_some]
    have far : ∀ N, N = M → (fn_lt mo (pg M x).2.2.2.1 ∨ fn_lt mo (pg M y).2.2.2.1) → ∃ M1 z, f_Reckoner_tell_b77 0 op x y N sg = some (M1, z) ∧ pq (fun i => i = 0 ∨ i = 1 ∨ i = x ∨ i = y) M M1 ∧ match (if fn_lt mo (pg M x).2.2.2.1 ∨ fn_lt mo (pg M y).2.2.2.1 then (if fn_sgn op then some (pg M x, pg M y) else (fn_telw op (fn_narT (pg M x)) (fn_narT (pg M y))).map (fun _ => (pg M x, pg M y))) else fn_telw op (pg M x) (pg M y) : fn_NN) with
        | none => z = 0
        | some q => z = 1 ∧ pg M1 x = q.1 ∧ pg M1 y = q.2 := by
      intro N hN c
      subst hN
      rw [if_pos c]
      have q := b77 sg
      by_cases s : sg = 0
      · rw [if_neg (show ¬ fn_sgn op from fun r => (hg.mp r) s)]
        rw [if_pos s] at q
        exact q
      · rw [if_pos (hg.mpr s)]
        rw [if_neg s] at q
        exact q
    by_cases c1 : fn_lt mo (mL M 11 x 3)
    · rw [if_pos c1, if_neg (by decide)]
      exact far M rfl (Or.inl c1)
    rw [if_neg c1, if_pos rfl, pf_isAbove, b2_some]
    by_cases c2 : fn_lt mo (mL M 11 y 3)
    · rw [if_pos c2, if_neg (by decide)]
      exact far M rfl (Or.inr c2)
    rw [if_neg c2, if_pos rfl, if_neg (show ¬ (fn_lt mo (pg M x).2.2.2.1 ∨ fn_lt mo (pg M y).2.2.2.1) from fun r => r.elim c1 c2)]
    exact wide
  unfold f_Reckoner_tell f_Reckoner_tell_b23 f_Reckoner_tell_b28
  have sg1 : fn_sgn op → ∃ M1 z, (if (1 : Int32) = 0 then f_Reckoner_tell_b44 0 op x y nar M 1 4294967295 else f_Reckoner_tell_b44 0 op x y nar M 1 2147483647) = some (M1, z) ∧ pq (fun i => i = 0 ∨ i = 1 ∨ i = x ∨ i = y) M M1 ∧ match fn_tell op nar (pg M x) (pg M y) with
      | none => z = 0
      | some q => z = 1 ∧ pg M1 x = q.1 ∧ pg M1 y = q.2 := by
    intro s
    rw [if_neg (by decide)]
    exact b44 1 2147483647 ⟨fun _ => by decide, fun _ => s⟩ (fn_most_s s)
  by_cases e5 : op = 5
  · rw [if_pos e5]; exact sg1 (Or.inl e5)
  rw [if_neg e5]
  by_cases e6 : op = 6
  · rw [if_pos e6]; exact sg1 (Or.inr (Or.inl e6))
  rw [if_neg e6]
  by_cases e9 : op = 9
  · rw [if_pos e9]; exact sg1 (Or.inr (Or.inr (Or.inl e9)))
  rw [if_neg e9]
  by_cases e10 : op = 10
  · rw [if_pos e10]; exact sg1 (Or.inr (Or.inr (Or.inr e10)))
  rw [if_neg e10, if_pos rfl]
  have s : ¬ fn_sgn op := fun r => r.elim e5 (fun r => r.elim e6 (fun r => r.elim e9 e10))
  exact b44 0 4294967295 ⟨fun r => absurd r s, fun r => absurd rfl r⟩ (fn_most_u s)
/-- an operation, wide or narrow -/
theorem pf_op {M : me_M} {op nar : Int32} {x y o : Nat} (hs : ps_R M) (hx : 4 < x) (hy : 4 < y) (ho : 4 < o) : ∃ M1, f_Reckoner_operate M 0 op x y nar o = some M1 ∧ pg M1 o = fn_op op nar (pg M x) (pg M y) ∧ pq (fun i => i < 5 ∨ i = o) M M1 := by
  have W : ∀ i, pq_W o i → i < 5 ∨ i = o := by
    intro i hi
    rcases hi with r | r | r | r
    · omega
    · omega
    · omega
    · exact Or.inr r
  unfold f_Reckoner_operate fn_op
  by_cases g : nar = 0
  · rw [if_pos g, if_pos g]
    obtain ⟨M1, h1, h2, h3⟩ := pf_opw (op := op) (M := M) hs (Or.inr hx) (Or.inr hy) ho
    rw [h1, bd_some]
    exact ⟨M1, rfl, h2, pq_mono h3 W⟩
  rw [if_neg g, if_neg g, hs.1, bd_some, pt_copy (by omega), bd_some]
  obtain ⟨M2, a1, a2, a3⟩ := pt_narrow (M := pn_t M 0 (pg M x)) (j := 0) (j0 := 0)
  rw [a1, bd_some, hs.2.1, bd_some, pt_copy (by omega), bd_some]
  obtain ⟨M3, b1, b2', b3⟩ := pt_narrow (M := pn_t M2 1 (pg M2 y)) (j := 1) (j0 := 0)
  rw [b1, bd_some]
  have q0 : pq (fun i => i < 5 ∨ i = o) M M2 := pq_trans (pq_t (Or.inl (by decide))) (pq_mono a3 (fun i hi => Or.inl (by omega)))
  have q1 : pq (fun i => i < 5 ∨ i = o) M M3 := pq_trans (pq_trans q0 (pq_t (Or.inl (by decide)))) (pq_mono b3 (fun i hi => Or.inl (by omega)))
  have e2y : pg M2 y = pg M y := by rw [pq_g a3 (by omega), pg_L (by omega)]
  have e0 : pg M3 0 = fn_narT (pg M x) := by rw [pq_g b3 (by decide), pg_L (by decide), a2, pg_t]
  have e1 : pg M3 1 = fn_narT (pg M y) := by rw [b2', pg_t, e2y]
  have hs3 : ps_R M3 := ps_R_of q1.2.1 hs
  generalize fn_narT (pg M x) = X at e0
  generalize fn_narT (pg M y) = Y at e1
  have b139 : ∀ (N : me_M) (op2 : Int32) (Z : fn_N), pq (fun i => i < 5 ∨ i = o) M N → pg N 0 = X → pg N 1 = Z → ∃ M1, f_Reckoner_operate_b139 0 o N op2 0 = some M1 ∧ pg M1 o = fn_narT (fn_fin (fn_rawT X Z op2)) ∧ pq (fun i => i < 5 ∨ i = o) M M1 := by
    intro N op2 Z hq h0 h1
    have hsN : ps_R N := ps_R_of hq.2.1 hs
    unfold f_Reckoner_operate_b139
    rw [hsN.1, bd_some, hsN.2.1, bd_some]
    obtain ⟨M4, c1, c2, c3⟩ := pf_opw (op := op2) (M := N) (x := 0) (y := 1) hsN (Or.inl (by decide)) (Or.inl (by decide)) ho
    rw [c1, bd_some]
    obtain ⟨M5, d1, d2, d3⟩ := pt_narrow (M := M4) (j := o) (j0 := 0)
    rw [d1, bd_some]
    refine ⟨M5, rfl, ?_, pq_trans (pq_trans hq (pq_mono c3 W)) (pq_mono d3 (fun i hi => Or.inr hi))⟩
    rw [d2, c2, h0, h1]
  have b99 : ∀ (N : me_M) (Z : fn_N), pq (fun i => i < 5 ∨ i = o) M N → pg N 0 = X → pg N 1 = Z → ∃ M1, f_Reckoner_operate_b99 0 op o N = some M1 ∧ pg M1 o = fn_opk op X Z ∧ pq (fun i => i < 5 ∨ i = o) M M1 := by
    intro N Z hq h0 h1
    have hsN : ps_R N := ps_R_of hq.2.1 hs
    unfold f_Reckoner_operate_b99 f_Reckoner_operate_b126 fn_opk
    by_cases e : op = 10
    · rw [if_pos e, if_pos e, hsN.1, bd_some, pf_isAbove, b2_some]
      have e3 : mL N 11 0 3 = X.2.2.2.1 := congrArg (fun z : fn_N => z.2.2.2.1) h0
      rw [e3]
      by_cases c : fn_lt 2147483647 X.2.2.2.1
      · rw [if_pos c, if_neg (by decide), if_pos c, pt_any, bd_some]
        obtain ⟨M5, d1, d2, d3⟩ := pt_narrow (M := pn_t N o fn_any) (j := o) (j0 := 0)
        rw [d1, bd_some]
        refine ⟨M5, rfl, ?_, pq_trans (pq_trans hq (pq_t (Or.inr rfl))) (pq_mono d3 (fun i hi => Or.inr hi))⟩
        rw [d2, pg_t]
      · rw [if_neg c, if_pos rfl, if_neg c, if_pos e]
        exact b139 N 9 Z hq h0 h1
    · rw [if_neg e, if_neg e, if_neg e]
      exact b139 N op Z hq h0 h1
  unfold f_Reckoner_operate_b63 f_Reckoner_operate_b64 fn_by5
  rw [if_pos rfl]
  by_cases e8 : op < 8
  · rw [if_pos e8, if_pos e8]
    exact b99 M3 Y q1 e0 e1
  rw [if_neg e8, if_neg e8]
  by_cases e10 : 10 < op
  · rw [if_pos e10, if_pos e10]
    exact b99 M3 Y q1 e0 e1
  rw [if_neg e10, if_neg e10, if_neg (by decide), hs3.2.1, bd_some, pf_isExact0, b2_some]
  have y1 : mL M3 11 1 1 = Y.2.1 := congrArg (fun z : fn_N => z.2.1) e1
  have y0 : mL M3 11 1 0 = Y.1 := congrArg (fun z : fn_N => z.1) e1
  rw [y1, y0]
  by_cases c : Y.2.1 = 0
  · rw [if_pos c, if_neg (by decide), if_pos c, pt_exact, bd_some]
    exact b99 _ _ (pq_trans q1 (pq_t (Or.inl (by decide)))) ((pg_L (by decide)).trans e0) pg_t
  · rw [if_neg c, if_pos rfl, if_neg c]
    exact b99 M3 Y q1 e0 e1
