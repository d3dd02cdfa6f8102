/-! PURE: the reference tells, operates, holds. -/
section RU
variable {M : me_M} {x y : Nat}
def rr_p (M : me_M) (x y : Nat) (m : Option (me_M × Int32)) (r : fn_NN) : Prop := ∃ M1 z, m = some (M1, z) ∧ rq (fun i => i = x ∨ i = y) M M1 ∧ match r with
  | none => z = 0
  | some q => z = 1 ∧ rg M1 x = q.1 ∧ rg M1 y = q.2
theorem rr_p_o {r : fn_NN} {m : Option (me_M × Int32)} (h : ¬ x = y) (hm : m = rr_o M M x y r) : rr_p M x y m r := by
  subst hm
  cases r with
  | none => exact ⟨M, 0, rfl, rq_refl, rfl⟩
  | some q => exact ⟨_, 1, rfl, rq_trans (rq_t (Or.inr rfl)) (rq_t (Or.inl rfl)), rfl, rg_t, (rg_L (fun z => h z.symm)).trans rg_t⟩
theorem rr_p_t {r : fn_NN} {m : Option (me_M × Int32)} (h : rr_p M y x m r) : rr_p M x y m (fn_turn r) := by
  obtain ⟨M1, z, h1, h2, h3⟩ := h
  refine ⟨M1, z, h1, rq_mono h2 (fun i hi => hi.symm), ?_⟩
  cases r with
  | none => exact h3
  | some q => exact ⟨h3.1, h3.2.2, h3.2.1⟩
theorem rr_set (h : ps_M M) {m : Option (me_M × Int32)} {r : fn_NN} (hm : rr_p M 30075 30076 m r) : rr_p M 30075 30076 (b2 m (fun M1 z => f_M_tells_b191 0 M1 z)) (fn_sets r) := by
  obtain ⟨M1, z, h1, h2, h3⟩ := hm
  have hp : ps_M M1 := rq_ps h2 h
  rw [h1, b2_some]
  unfold f_M_tells_b191
  cases r with
  | none =>
    rw [if_pos h3]
    exact ⟨_, _, rfl, h2, rfl⟩
  | some q =>
    obtain ⟨rfl, hx, hy⟩ := h3
    rw [if_neg (by decide)]
    cases e1 : fn_it 3 q.1 with
    | none =>
      obtain ⟨w, hw⟩ := pm_settle_none (M := M1) hp ok_X (by rw [hx]; exact e1)
      rw [hw, b2_some, if_pos rfl, fn_sets_1 (x := q.1) (y := q.2) rfl e1]
      exact ⟨_, _, rfl, rq_trans h2 (rq_t (Or.inl rfl)), rfl⟩
    | some a =>
      rw [pm_settle_some (z := a) hp ok_X (by rw [hx]; exact e1), b2_some, if_neg (by decide)]
      have hy2 : rg (rt M1 30075 a) 30076 = q.2 := (rg_L (by decide)).trans hy
      cases e2 : fn_it 3 q.2 with
      | none =>
        obtain ⟨w, hw⟩ := pm_settle_none (M := rt M1 30075 a) (ps_t hp) ok_Y (by rw [hy2]; exact e2)
        rw [hw, b2_some, if_pos rfl, fn_sets_2 (x := q.1) (y := q.2) rfl e1 e2]
        exact ⟨_, _, rfl, rq_trans (rq_trans h2 (rq_t (Or.inl rfl))) (rq_t (Or.inr rfl)), rfl⟩
      | some b =>
        rw [pm_settle_some (z := b) (ps_t hp) ok_Y (by rw [hy2]; exact e2), b2_some, if_neg (by decide), fn_sets_s (x := q.1) (y := q.2) rfl e1 e2]
        exact ⟨_, _, rfl, rq_trans (rq_trans h2 (rq_t (Or.inl rfl))) (rq_t (Or.inr rfl)), rfl, (rg_L (by decide)).trans rg_t, rg_t⟩
theorem rr_id : rn_put (rn_put M y (mL M 16 6 y) (mL M 16 7 y) (mL M 16 8 y) (mL M 16 9 y) (mL M 16 10 y) (mL M 16 11 y)) x (mL M 16 6 x) (mL M 16 7 x) (mL M 16 8 x) (mL M 16 9 x) (mL M 16 10 x) (mL M 16 11 x) = M := by
  rw [rn_id, rn_id]
theorem pm_tells (h : ps_M M) {op : Int32} (ho : op = 0 ∨ op = 1 ∨ op = 2 ∨ op = 3 ∨ op = 4 ∨ op = 5 ∨ op = 6 ∨ op = 7 ∨ op = 8 ∨ op = 9 ∨ op = 10 ∨ op = 11) : rr_p M 30075 30076 (f_M_tells M 0 op) (fn_telw op (rg M 30075) (rg M 30076)) := by
  have k1 : rr_p M 30075 30076 (f_M_orders M 0 30075 30076 1 0) (fn_above (mL M 16 6 30075) (mL M 16 7 30075) (mL M 16 8 30075) (mL M 16 9 30075) (mL M 16 10 30075) (mL M 16 11 30075) (mL M 16 6 30076) (mL M 16 7 30076) (mL M 16 8 30076) (mL M 16 9 30076) (mL M 16 10 30076) (mL M 16 11 30076)) := by
    have q := po_u1 (M := M) (x := 30075) (y := 30076) (n1 := mL M 16 6 30075) (n2 := mL M 16 7 30075) (n3 := mL M 16 8 30075) (n4 := mL M 16 9 30075) (n5 := mL M 16 10 30075) (n6 := mL M 16 11 30075) (o1 := mL M 16 6 30076) (o2 := mL M 16 7 30076) (o3 := mL M 16 8 30076) (o4 := mL M 16 9 30076) (o5 := mL M 16 10 30076) (o6 := mL M 16 11 30076) h ok_X ok_Y (by decide)
    rw [rr_id] at q
    exact rr_p_o (by decide) q
  have k2 : rr_p M 30075 30076 (f_M_orders M 0 30075 30076 0 0) (fn_nbelow (mL M 16 6 30075) (mL M 16 7 30075) (mL M 16 8 30075) (mL M 16 9 30075) (mL M 16 10 30075) (mL M 16 11 30075) (mL M 16 6 30076) (mL M 16 7 30076) (mL M 16 8 30076) (mL M 16 9 30076) (mL M 16 10 30076) (mL M 16 11 30076)) := by
    have q := po_u0 (M := M) (x := 30075) (y := 30076) (n1 := mL M 16 6 30075) (n2 := mL M 16 7 30075) (n3 := mL M 16 8 30075) (n4 := mL M 16 9 30075) (n5 := mL M 16 10 30075) (n6 := mL M 16 11 30075) (o1 := mL M 16 6 30076) (o2 := mL M 16 7 30076) (o3 := mL M 16 8 30076) (o4 := mL M 16 9 30076) (o5 := mL M 16 10 30076) (o6 := mL M 16 11 30076) h ok_X ok_Y (by decide)
    rw [rr_id] at q
    exact rr_p_o (by decide) q
  have k5 : rr_p M 30075 30076 (f_M_orders M 0 30075 30076 1 1) (fn_greater (mL M 16 6 30075) (mL M 16 7 30075) (mL M 16 8 30075) (mL M 16 9 30075) (mL M 16 10 30075) (mL M 16 11 30075) (mL M 16 6 30076) (mL M 16 7 30076) (mL M 16 8 30076) (mL M 16 9 30076) (mL M 16 10 30076) (mL M 16 11 30076)) := by
    have q := po_s1 (M := M) (x := 30075) (y := 30076) (n1 := mL M 16 6 30075) (n2 := mL M 16 7 30075) (n3 := mL M 16 8 30075) (n4 := mL M 16 9 30075) (n5 := mL M 16 10 30075) (n6 := mL M 16 11 30075) (o1 := mL M 16 6 30076) (o2 := mL M 16 7 30076) (o3 := mL M 16 8 30076) (o4 := mL M 16 9 30076) (o5 := mL M 16 10 30076) (o6 := mL M 16 11 30076) h ok_X ok_Y (by decide)
    rw [rr_id] at q
    exact rr_p_o (by decide) q
  have k6 : rr_p M 30075 30076 (f_M_orders M 0 30075 30076 0 1) (fn_nless (mL M 16 6 30075) (mL M 16 7 30075) (mL M 16 8 30075) (mL M 16 9 30075) (mL M 16 10 30075) (mL M 16 11 30075) (mL M 16 6 30076) (mL M 16 7 30076) (mL M 16 8 30076) (mL M 16 9 30076) (mL M 16 10 30076) (mL M 16 11 30076)) := by
    have q := po_s0 (M := M) (x := 30075) (y := 30076) (n1 := mL M 16 6 30075) (n2 := mL M 16 7 30075) (n3 := mL M 16 8 30075) (n4 := mL M 16 9 30075) (n5 := mL M 16 10 30075) (n6 := mL M 16 11 30075) (o1 := mL M 16 6 30076) (o2 := mL M 16 7 30076) (o3 := mL M 16 8 30076) (o4 := mL M 16 9 30076) (o5 := mL M 16 10 30076) (o6 := mL M 16 11 30076) h ok_X ok_Y (by decide)
    rw [rr_id] at q
    exact rr_p_o (by decide) q
  have k7 : rr_p M 30076 30075 (f_M_orders M 0 30076 30075 1 0) (fn_above (mL M 16 6 30076) (mL M 16 7 30076) (mL M 16 8 30076) (mL M 16 9 30076) (mL M 16 10 30076) (mL M 16 11 30076) (mL M 16 6 30075) (mL M 16 7 30075) (mL M 16 8 30075) (mL M 16 9 30075) (mL M 16 10 30075) (mL M 16 11 30075)) := by
    have q := po_u1 (M := M) (x := 30076) (y := 30075) (n1 := mL M 16 6 30076) (n2 := mL M 16 7 30076) (n3 := mL M 16 8 30076) (n4 := mL M 16 9 30076) (n5 := mL M 16 10 30076) (n6 := mL M 16 11 30076) (o1 := mL M 16 6 30075) (o2 := mL M 16 7 30075) (o3 := mL M 16 8 30075) (o4 := mL M 16 9 30075) (o5 := mL M 16 10 30075) (o6 := mL M 16 11 30075) h ok_Y ok_X (by decide)
    rw [rr_id] at q
    exact rr_p_o (by decide) q
  have k8 : rr_p M 30076 30075 (f_M_orders M 0 30076 30075 0 0) (fn_nbelow (mL M 16 6 30076) (mL M 16 7 30076) (mL M 16 8 30076) (mL M 16 9 30076) (mL M 16 10 30076) (mL M 16 11 30076) (mL M 16 6 30075) (mL M 16 7 30075) (mL M 16 8 30075) (mL M 16 9 30075) (mL M 16 10 30075) (mL M 16 11 30075)) := by
    have q := po_u0 (M := M) (x := 30076) (y := 30075) (n1 := mL M 16 6 30076) (n2 := mL M 16 7 30076) (n3 := mL M 16 8 30076) (n4 := mL M 16 9 30076) (n5 := mL M 16 10 30076) (n6 := mL M 16 11 30076) (o1 := mL M 16 6 30075) (o2 := mL M 16 7 30075) (o3 := mL M 16 8 30075) (o4 := mL M 16 9 30075) (o5 := mL M 16 10 30075) (o6 := mL M 16 11 30075) h ok_Y ok_X (by decide)
    rw [rr_id] at q
    exact rr_p_o (by decide) q
  have k9 : rr_p M 30076 30075 (f_M_orders M 0 30076 30075 1 1) (fn_greater (mL M 16 6 30076) (mL M 16 7 30076) (mL M 16 8 30076) (mL M 16 9 30076) (mL M 16 10 30076) (mL M 16 11 30076) (mL M 16 6 30075) (mL M 16 7 30075) (mL M 16 8 30075) (mL M 16 9 30075) (mL M 16 10 30075) (mL M 16 11 30075)) := by
    have q := po_s1 (M := M) (x := 30076) (y := 30075) (n1 := mL M 16 6 30076) (n2 := mL M 16 7 30076) (n3 := mL M 16 8 30076) (n4 := mL M 16 9 30076) (n5 := mL M 16 10 30076) (n6 := mL M 16 11 30076) (o1 := mL M 16 6 30075) (o2 := mL M 16 7 30075) (o3 := mL M 16 8 30075) (o4 := mL M 16 9 30075) (o5 := mL M 16 10 30075) (o6 := mL M 16 11 30075) h ok_Y ok_X (by decide)
    rw [rr_id] at q
    exact rr_p_o (by decide) q
  have k10 : rr_p M 30076 30075 (f_M_orders M 0 30076 30075 0 1) (fn_nless (mL M 16 6 30076) (mL M 16 7 30076) (mL M 16 8 30076) (mL M 16 9 30076) (mL M 16 10 30076) (mL M 16 11 30076) (mL M 16 6 30075) (mL M 16 7 30075) (mL M 16 8 30075) (mL M 16 9 30075) (mL M 16 10 30075) (mL M 16 11 30075)) := by
    have q := po_s0 (M := M) (x := 30076) (y := 30075) (n1 := mL M 16 6 30076) (n2 := mL M 16 7 30076) (n3 := mL M 16 8 30076) (n4 := mL M 16 9 30076) (n5 := mL M 16 10 30076) (n6 := mL M 16 11 30076) (o1 := mL M 16 6 30075) (o2 := mL M 16 7 30075) (o3 := mL M 16 8 30075) (o4 := mL M 16 9 30075) (o5 := mL M 16 10 30075) (o6 := mL M 16 11 30075) h ok_Y ok_X (by decide)
    rw [rr_id] at q
    exact rr_p_o (by decide) q
  have k0 : rr_p M 30075 30076 (f_M_same M 0) (fn_same (mL M 16 6 30075) (mL M 16 7 30075) (mL M 16 8 30075) (mL M 16 9 30075) (mL M 16 10 30075) (mL M 16 11 30075) (mL M 16 6 30076) (mL M 16 7 30076) (mL M 16 8 30076) (mL M 16 9 30076) (mL M 16 10 30076) (mL M 16 11 30076)) := by
    have q := lm_same (M := M) (n1 := mL M 16 6 30075) (n2 := mL M 16 7 30075) (n3 := mL M 16 8 30075) (n4 := mL M 16 9 30075) (n5 := mL M 16 10 30075) (n6 := mL M 16 11 30075) (o1 := mL M 16 6 30076) (o2 := mL M 16 7 30076) (o3 := mL M 16 8 30076) (o4 := mL M 16 9 30076) (o5 := mL M 16 10 30076) (o6 := mL M 16 11 30076) h
    rw [rr_id] at q
    exact rr_p_o (by decide) q
  have k3 : rr_p M 30075 30076 (f_M_meets M 0) (fn_meet (mL M 16 6 30075) (mL M 16 7 30075) (mL M 16 8 30075) (mL M 16 9 30075) (mL M 16 10 30075) (mL M 16 11 30075) (mL M 16 6 30076) (mL M 16 7 30076) (mL M 16 8 30076) (mL M 16 9 30076) (mL M 16 10 30076) (mL M 16 11 30076)) := by
    have q := lm_meet (M := M) (n1 := mL M 16 6 30075) (n2 := mL M 16 7 30075) (n3 := mL M 16 8 30075) (n4 := mL M 16 9 30075) (n5 := mL M 16 10 30075) (n6 := mL M 16 11 30075) (o1 := mL M 16 6 30076) (o2 := mL M 16 7 30076) (o3 := mL M 16 8 30076) (o4 := mL M 16 9 30076) (o5 := mL M 16 10 30076) (o6 := mL M 16 11 30076) h
    rw [rr_id] at q
    exact rr_p_o (by decide) q
  have k4 : rr_p M 30075 30076 (f_M_notSame M 0) (fn_nsame (mL M 16 6 30075) (mL M 16 7 30075) (mL M 16 8 30075) (mL M 16 9 30075) (mL M 16 10 30075) (mL M 16 11 30075) (mL M 16 6 30076) (mL M 16 7 30076) (mL M 16 8 30076) (mL M 16 9 30076) (mL M 16 10 30076) (mL M 16 11 30076)) := by
    have q := lm_nsame (M := M) (n1 := mL M 16 6 30075) (n2 := mL M 16 7 30075) (n3 := mL M 16 8 30075) (n4 := mL M 16 9 30075) (n5 := mL M 16 10 30075) (n6 := mL M 16 11 30075) (o1 := mL M 16 6 30076) (o2 := mL M 16 7 30076) (o3 := mL M 16 8 30076) (o4 := mL M 16 9 30076) (o5 := mL M 16 10 30076) (o6 := mL M 16 11 30076) h
    rw [rr_id] at q
    exact rr_p_o (by decide) q
  have k11 : rr_p M 30075 30076 (f_M_misses M 0) (fn_nmeet (mL M 16 6 30075) (mL M 16 7 30075) (mL M 16 8 30075) (mL M 16 9 30075) (mL M 16 10 30075) (mL M 16 11 30075) (mL M 16 6 30076) (mL M 16 7 30076) (mL M 16 8 30076) (mL M 16 9 30076) (mL M 16 10 30076) (mL M 16 11 30076)) := by
    have q := lm_nmeet (M := M) (n1 := mL M 16 6 30075) (n2 := mL M 16 7 30075) (n3 := mL M 16 8 30075) (n4 := mL M 16 9 30075) (n5 := mL M 16 10 30075) (n6 := mL M 16 11 30075) (o1 := mL M 16 6 30076) (o2 := mL M 16 7 30076) (o3 := mL M 16 8 30076) (o4 := mL M 16 9 30076) (o5 := mL M 16 10 30076) (o6 := mL M 16 11 30076) h
    rw [rr_id] at q
    exact rr_p_o (by decide) q
  unfold f_M_tells f_M_tells_b85 f_M_tells_b126 f_M_tells_b152 f_M_tells_b178 fn_telw fn_relT fn_rel
  rcases ho with rfl | rfl | rfl | rfl | rfl | rfl | rfl | rfl | rfl | rfl | rfl | rfl
  · rw [if_pos rfl, if_pos rfl]; exact rr_set h k0
  · rw [if_neg (by decide), if_pos rfl, if_pos rfl, if_neg (by decide), if_pos rfl]; exact rr_set h k1
  · rw [if_neg (by decide), if_neg (by decide), if_pos rfl, if_neg (by decide), if_neg (by decide), if_neg (by decide), if_pos rfl]; exact rr_set h k2
  · rw [if_neg (by decide), if_neg (by decide), if_neg (by decide), if_pos rfl, if_neg (by decide), if_neg (by decide), if_neg (by decide), if_pos rfl]; exact rr_set h k3
  · rw [if_neg (by decide), if_neg (by decide), if_neg (by decide), if_neg (by decide), if_pos rfl, if_neg (by decide), if_neg (by decide), if_neg (by decide), if_neg (by decide), if_pos rfl]; exact rr_set h k4
  · rw [if_neg (by decide), if_neg (by decide), if_neg (by decide), if_neg (by decide), if_neg (by decide), if_pos rfl, if_pos rfl, if_neg (by decide), if_neg (by decide), if_neg (by decide), if_neg (by decide), if_neg (by decide), if_pos rfl]; exact rr_set h k5
  · rw [if_neg (by decide), if_neg (by decide), if_neg (by decide), if_neg (by decide), if_neg (by decide), if_neg (by decide), if_pos rfl, if_neg (by decide), if_neg (by decide), if_neg (by decide), if_neg (by decide), if_neg (by decide), if_neg (by decide), if_neg (by decide), if_pos rfl]; exact rr_set h k6
  · rw [if_neg (by decide), if_neg (by decide), if_neg (by decide), if_neg (by decide), if_neg (by decide), if_neg (by decide), if_neg (by decide), if_pos rfl, if_pos rfl, if_neg (by decide), if_neg (by decide), if_neg (by decide), if_neg (by decide), if_neg (by decide), if_neg (by decide), if_neg (by decide), if_pos rfl]; exact rr_set h (rr_p_t k7)
  · rw [if_neg (by decide), if_neg (by decide), if_neg (by decide), if_neg (by decide), if_neg (by decide), if_neg (by decide), if_neg (by decide), if_neg (by decide), if_pos rfl, if_neg (by decide), if_neg (by decide), if_neg (by decide), if_neg (by decide), if_neg (by decide), if_neg (by decide), if_neg (by decide), if_neg (by decide), if_neg (by decide), if_pos rfl]; exact rr_set h (rr_p_t k8)
  · rw [if_neg (by decide), if_neg (by decide), if_neg (by decide), if_neg (by decide), if_neg (by decide), if_neg (by decide), if_neg (by decide), if_neg (by decide), if_neg (by decide), if_pos rfl, if_pos rfl, if_neg (by decide), if_neg (by decide), if_neg (by decide), if_neg (by decide), if_neg (by decide), if_neg (by decide), if_neg (by decide), if_neg (by decide), if_neg (by decide), if_pos rfl]; exact rr_set h (rr_p_t k9)
  · rw [if_neg (by decide), if_neg (by decide), if_neg (by decide), if_neg (by decide), if_neg (by decide), if_neg (by decide), if_neg (by decide), if_neg (by decide), if_neg (by decide), if_neg (by decide), if_pos rfl, if_neg (by decide), if_neg (by decide), if_neg (by decide), if_neg (by decide), if_neg (by decide), if_neg (by decide), if_neg (by decide), if_neg (by decide), if_neg (by decide), if_neg (by decide), if_neg (by decide), if_pos rfl]; exact rr_set h (rr_p_t k10)
  · rw [if_neg (by decide), if_neg (by decide), if_neg (by decide), if_neg (by decide), if_neg (by decide), if_neg (by decide), if_neg (by decide), if_neg (by decide), if_neg (by decide), if_neg (by decide), if_neg (by decide), if_neg (by decide), if_neg (by decide), if_neg (by decide), if_neg (by decide), if_neg (by decide), if_neg (by decide), if_neg (by decide), if_neg (by decide), if_neg (by decide), if_neg (by decide), if_neg (by decide)]; exact rr_set h k11
/-- an operation of the reference -/
theorem pm_op (h : ps_M M) {op nar : Int32} {xi yi zi : Int32} {i j l : Nat} (hx : ok xi i) (hy : ok yi j) (hz : ok zi l) (hj : ¬ j = 30075) (ho : op_ok op) : ∃ M1, f_M_operate M 0 zi op xi yi nar = some M1 ∧ rg M1 l = fn_op op nar (rg M i) (rg M j) ∧ rq (fun i => rq_D i ∨ i = l) M M1 := by
  have key : ∀ N : me_M, ps_M N → rq (fun i => rq_D i ∨ i = l) M N → (if nar = 0 then fn_doe op nar (rg N 30075) (rg N 30076) else fn_narT (fn_doe op nar (rg N 30075) (rg N 30076))) = fn_op op nar (rg M i) (rg M j) → ∃ M1, f_M_operate_b36 0 zi op nar N = some M1 ∧ rg M1 l = fn_op op nar (rg M i) (rg M j) ∧ rq (fun i => rq_D i ∨ i = l) M M1 := by
    intro N hN hq he
    unfold f_M_operate_b36
    obtain ⟨M1, a1, a2, a3⟩ := pm_does (nar := nar) hN ho
    have hM1 : ps_M M1 := rq_ps a3 hN
    rw [a1, bd_some]
    by_cases g : nar = 0
    · rw [if_pos g] at he ⊢
      rw [pm_copy hM1 ok_R hz, bd_some, a2, he]
      exact ⟨_, rfl, rg_t, rq_trans (rq_trans hq (rq_mono a3 (fun i hi => Or.inl hi))) (rq_t (Or.inr rfl))⟩
    · rw [if_neg g] at he ⊢
      rw [pm_narrow hM1 ok_R, bd_some, pm_copy (ps_t hM1) ok_R hz, bd_some, rg_t, a2, he]
      exact ⟨_, rfl, rg_t, rq_trans (rq_trans (rq_trans hq (rq_mono a3 (fun i hi => Or.inl hi))) (rq_t (Or.inl rD3))) (rq_t (Or.inr rfl))⟩
  unfold f_M_operate
  rw [pm_copy h hx ok_X, bd_some, pm_copy (ps_t h) hy ok_Y, bd_some, rg_L hj]
  have q0 : rq (fun i => rq_D i ∨ i = l) M (rt (rt M 30075 (rg M i)) 30076 (rg M j)) := rq_trans (rq_t (Or.inl rD1)) (rq_t (Or.inl rD2))
  have hp : ps_M (rt (rt M 30075 (rg M i)) 30076 (rg M j)) := ps_t (ps_t h)
  have e1 : rg (rt (rt M 30075 (rg M i)) 30076 (rg M j)) 30075 = rg M i := (rg_L (by decide)).trans rg_t
  have e2 : rg (rt (rt M 30075 (rg M i)) 30076 (rg M j)) 30076 = rg M j := rg_t
  generalize rt (rt M 30075 (rg M i)) 30076 (rg M j) = N at q0 hp e1 e2
  rw [fn_op_doe] at *
  by_cases g : nar = 0
  · rw [if_pos g]
    refine key N hp q0 ?_
    rw [if_pos g, if_pos g, e1, e2]
  · rw [if_neg g, pm_narrow hp ok_X, bd_some, pm_narrow (ps_t hp) ok_Y, bd_some, rg_L (by decide), e1, e2]
    refine key _ (ps_t (ps_t hp)) (rq_trans q0 (rq_trans (rq_t (Or.inl rD1)) (rq_t (Or.inl rD2)))) ?_
    rw [if_neg g, if_neg g, (rg_L (by decide)).trans rg_t, rg_t]
abbrev rel_ok (op : Int32) : Prop := op = 0 ∨ op = 1 ∨ op = 2 ∨ op = 3 ∨ op = 4 ∨ op = 5 ∨ op = 6 ∨ op = 7 ∨ op = 8 ∨ op = 9 ∨ op = 10 ∨ op = 11
/-- a relation of the reference: told to both numbers, or they are left -/
theorem pm_holds (h : ps_M M) {op nar : Int32} {xi yi : Int32} {i j : Nat} (hx : ok xi i) (hy : ok yi j) (hi : i < 30075 ∨ 30077 < i) (hj : j < 30075 ∨ 30077 < j) (hij : ¬ i = j) (ho : rel_ok op) : ∃ M1 z, f_M_holds M 0 op xi yi nar = some (M1, z) ∧ rq (fun k => k = 30075 ∨ k = 30076 ∨ k = i ∨ k = j) M M1 ∧ match fn_tell op nar (rg M i) (rg M j) with
  | none => z = 0 ∧ rg M1 i = rg M i ∧ rg M1 j = rg M j
  | some q => z = 1 ∧ rg M1 i = q.1 ∧ rg M1 j = q.2 := by
  unfold f_M_holds
  rw [pm_copy h hx ok_X, bd_some, pm_copy (ps_t h) hy ok_Y, bd_some, rg_L (by omega)]
  have q0 : rq (fun k => k = 30075 ∨ k = 30076 ∨ k = i ∨ k = j) M (rt (rt M 30075 (rg M i)) 30076 (rg M j)) := rq_trans (rq_t (Or.inl rfl)) (rq_t (Or.inr (Or.inl rfl)))
  have hp : ps_M (rt (rt M 30075 (rg M i)) 30076 (rg M j)) := ps_t (ps_t h)
  have e1 : rg (rt (rt M 30075 (rg M i)) 30076 (rg M j)) 30075 = rg M i := (rg_L (by decide)).trans rg_t
  have e2 : rg (rt (rt M 30075 (rg M i)) 30076 (rg M j)) 30076 = rg M j := rg_t
  have e3 : rg (rt (rt M 30075 (rg M i)) 30076 (rg M j)) i = rg M i := (rg_L (by omega)).trans (rg_L (by omega))
  have e4 : rg (rt (rt M 30075 (rg M i)) 30076 (rg M j)) j = rg M j := (rg_L (by omega)).trans (rg_L (by omega))
  generalize rt (rt M 30075 (rg M i)) 30076 (rg M j) = N at q0 hp e1 e2 e3 e4
  have b138 : ∃ M1 z, f_M_holds_b138 0 op xi yi N = some (M1, z) ∧ rq (fun k => k = 30075 ∨ k = 30076 ∨ k = i ∨ k = j) M M1 ∧ match fn_telw op (rg M i) (rg M j) with
      | none => z = 0 ∧ rg M1 i = rg M i ∧ rg M1 j = rg M j
      | some q => z = 1 ∧ rg M1 i = q.1 ∧ rg M1 j = q.2 := by
    obtain ⟨M1, z, a1, a2, a3⟩ := pm_tells (op := op) hp ho
    rw [e1, e2] at a3
    have hM1 : ps_M M1 := rq_ps a2 hp
    have q1 : rq (fun k => k = 30075 ∨ k = 30076 ∨ k = i ∨ k = j) M M1 := rq_trans q0 (rq_mono a2 (fun k hk => hk.elim Or.inl (fun r => Or.inr (Or.inl r))))
    have f3 : rg M1 i = rg M i := (rq_g a2 (by omega)).trans e3
    have f4 : rg M1 j = rg M j := (rq_g a2 (by omega)).trans e4
    unfold f_M_holds_b138
    rw [a1, b2_some]
    cases hr : fn_telw op (rg M i) (rg M j) with
    | none =>
      rw [hr] at a3
      rw [if_pos a3]
      exact ⟨_, _, rfl, q1, rfl, f3, f4⟩
    | some q =>
      rw [hr] at a3
      rw [if_neg (by rw [a3.1]; decide), pm_copy hM1 ok_X hx, bd_some, pm_copy (ps_t hM1) ok_Y hy, bd_some]
      refine ⟨_, _, rfl, rq_trans q1 (rq_trans (rq_t (Or.inr (Or.inr (Or.inl rfl)))) (rq_t (Or.inr (Or.inr (Or.inr rfl))))), rfl, ?_, ?_⟩
      · rw [rg_L hij, rg_t]; exact a3.2.1
      · rw [rg_t, rg_L (by omega)]; exact a3.2.2
  have b99 : ∀ (sg small : Int32), (fn_sgn op ↔ ¬ sg = 0) → ((fn_lt (fn_most op) (rg M i).2.2.2.1 ∨ fn_lt (fn_most op) (rg M j).2.2.2.1) ↔ small = 0) → ∃ M1 z, f_M_holds_b99 0 op xi yi nar N sg small = some (M1, z) ∧ rq (fun k => k = 30075 ∨ k = 30076 ∨ k = i ∨ k = j) M M1 ∧ match fn_tell op nar (rg M i) (rg M j) with
      | none => z = 0 ∧ rg M1 i = rg M i ∧ rg M1 j = rg M j
      | some q => z = 1 ∧ rg M1 i = q.1 ∧ rg M1 j = q.2 := by
    intro sg small hg hs
    unfold f_M_holds_b99 fn_tell
    by_cases g : nar = 0
    · rw [if_pos g, if_pos g]; exact b138
    · rw [if_neg g, if_neg g]
      by_cases g2 : small = 0
      · rw [if_pos g2, if_pos (hs.mpr g2)]
        by_cases g3 : sg = 0
        · rw [if_pos g3, if_neg (show ¬ fn_sgn op from fun z => (hg.mp z) g3), pm_narrow hp ok_X, bd_some, pm_narrow (ps_t hp) ok_Y, bd_some, rg_L (by decide), e1, e2]
          obtain ⟨M1, z, a1, a2, a3⟩ := pm_tells (M := rt (rt N 30075 (fn_narT (rg M i))) 30076 (fn_narT (rg M j))) (op := op) (ps_t (ps_t hp)) ho
          rw [(rg_L (by decide)).trans rg_t, rg_t] at a3
          rw [a1, b2_some]
          have q1 : rq (fun k => k = 30075 ∨ k = 30076) N M1 := rq_trans (rq_trans (rq_t (Or.inl rfl)) (rq_t (Or.inr rfl))) a2
          refine ⟨M1, z, rfl, rq_trans q0 (rq_mono q1 (fun k hk => hk.elim Or.inl (fun r => Or.inr (Or.inl r)))), ?_⟩
          have f3 : rg M1 i = rg M i := (rq_g q1 (by omega)).trans e3
          have f4 : rg M1 j = rg M j := (rq_g q1 (by omega)).trans e4
          revert a3
          cases fn_telw op (fn_narT (rg M i)) (fn_narT (rg M j)) with
          | none => exact fun w => ⟨w, f3, f4⟩
          | some q => exact fun w => ⟨w.1, f3, f4⟩
        · rw [if_neg g3, if_pos (hg.mpr g3)]
          exact ⟨N, 1, rfl, q0, rfl, e3, e4⟩
      · rw [if_neg g2, if_neg (fun z => g2 (hs.mp z))]; exact b138
  have d1 : mL N 16 9 30075 = (rg M i).2.2.2.1 := congrArg (fun z : fn_N => z.2.2.2.1) e1
  have d2 : mL N 16 9 30076 = (rg M j).2.2.2.1 := congrArg (fun z : fn_N => z.2.2.2.1) e2
  have b60 : ∀ (sg : Int32) (mo : Int64), (fn_sgn op ↔ ¬ sg = 0) → fn_most op = mo → ∃ M1 z, f_M_holds_b60 0 op xi yi nar N sg mo = some (M1, z) ∧ rq (fun k => k = 30075 ∨ k = 30076 ∨ k = i ∨ k = j) M M1 ∧ match fn_tell op nar (rg M i) (rg M j) with
      | none => z = 0 ∧ rg M1 i = rg M i ∧ rg M1 j = rg M j
      | some q => z = 1 ∧ rg M1 i = q.1 ∧ rg M1 j = q.2 := by
    intro sg mo hg hm
    unfold f_M_holds_b60 f_M_holds_b98
    rw [rs_55 hp, bd_some, rz_16_9 hp, gX, d1, pm_below, bd_some]
    by_cases c1 : fn_lt mo (rg M i).2.2.2.1
    · rw [if_pos c1, if_neg (by decide)]
      exact b99 sg 0 hg ⟨fun _ => rfl, fun _ => Or.inl (by rw [hm]; exact c1)⟩
    · rw [if_neg c1, if_pos rfl, gY, d2, pm_below, bd_some]
      by_cases c2 : fn_lt mo (rg M j).2.2.2.1
      · rw [if_pos c2, if_neg (by decide)]
        exact b99 sg 0 hg ⟨fun _ => rfl, fun _ => Or.inr (by rw [hm]; exact c2)⟩
      · rw [if_neg c2, if_pos rfl]
        exact b99 sg 1 hg ⟨fun z => by rw [hm] at z; exact absurd z (fun r => r.elim c1 c2), fun z => absurd z (by decide)⟩
  have s1 : fn_sgn op → ∃ M1 z, f_M_holds_b39 0 op xi yi nar N = some (M1, z) ∧ rq (fun k => k = 30075 ∨ k = 30076 ∨ k = i ∨ k = j) M M1 ∧ match fn_tell op nar (rg M i) (rg M j) with
      | none => z = 0 ∧ rg M1 i = rg M i ∧ rg M1 j = rg M j
      | some q => z = 1 ∧ rg M1 i = q.1 ∧ rg M1 j = q.2 := by
    intro s
    unfold f_M_holds_b39 f_M_holds_b44
    rw [if_neg (by decide)]
    exact b60 1 2147483647 ⟨fun _ => by decide, fun _ => s⟩ (fn_most_s s)
  by_cases c5 : op = 5
  · rw [if_pos c5]; exact s1 (Or.inl c5)
  rw [if_neg c5]
  by_cases c6 : op = 6
  · rw [if_pos c6]; exact s1 (Or.inr (Or.inl c6))
  rw [if_neg c6]
  by_cases c9 : op = 9
  · rw [if_pos c9]; exact s1 (Or.inr (Or.inr (Or.inl c9)))
  rw [if_neg c9]
  by_cases c10 : op = 10
  · rw [if_pos c10]; exact s1 (Or.inr (Or.inr (Or.inr c10)))
  rw [if_neg c10]
  have s : ¬ fn_sgn op := fun r => r.elim c5 (fun r => r.elim c6 (fun r => r.elim c9 c10))
  unfold f_M_holds_b44
  rw [if_pos rfl]
  exact b60 0 4294967295 ⟨fun r => absurd r s, fun r => absurd rfl r⟩ (fn_most_u s)
end RU
