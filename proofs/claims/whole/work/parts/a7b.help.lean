/-! PURE: the class's helpers. -/
section CI
variable {M M1 M2 : me_M} {s : Nat} {c : Int64} {nm : Nat} {kb vb : Int32 → Int32}
theorem st_give (h : stp M s c) {u : Nat} (hu : us M s u) {m ids : Int32} {τ : sT} (hv : ∀ i, i < 75 → sv M s i = s_lost τ i) (h7 : mI M 7 0 7 = ids) {fu : Nat} : ∃ M1 r, f_Steps_help_l23 0 (fu + 1) M m 6 = some (M1, r) ∧ tk s M M1 ∧ rs s M1 r (s_give c m τ ids) := by
  have l5 : mI M 2 0 9 = d_field c := h.1.2.2.2.2.1
  have hc : mR M 10 (75 * s + 0 + 1) 6 = some (nu (75 * s + 0 + 1)) := st_cell (i := 0) h (by decide)
  have fin : ∀ (M1 : me_M) (z : sC) (id : Int32), fr (yP (75 * s + 0 + 1)) M M1 → cv M1 (75 * s + 0 + 1) = z → mI M1 7 0 7 = id → tk s M M1 ∧ rs s M1 0 (.ok (up (s_lost τ) 0 z, id)) := by
    intro M1 z id g hz hid
    obtain ⟨q1, q2⟩ := fin_y (t := 0) (by decide) hu g
    rw [hz] at q2
    refine ⟨q1, rfl, ?_, hid⟩
    intro i hi
    rw [q2 i hi]
    show up (sv M s) 0 z i = up (s_lost τ) 0 z i
    unfold up
    by_cases e : i = 0
    · rw [if_pos e, if_pos e]
    · rw [if_neg e, if_neg e, hv i hi]
  rw [f_Steps_help_l23, if_pos (by decide), h.2.2.2.2.2.2.2.2.2.1, bd_some, (h.2.1.1 s h.2.2.2.1).2, gd_pos (by decide), h.2.1.2.1 s 0 h.2.2.2.1 (by decide), bd_some, h.2.2.2.2.1, bd_some, l5]
  unfold s_give
  by_cases f1 : d_field c = 1
  · rw [if_pos f1, if_pos f1]
    obtain ⟨A, a1, a2, a3⟩ := ce_become (M := M) (c := 75 * s + 0 + 1) (k := 8) (p := 0) hc
    rw [a1, bd_some, st_eq]
    unfold f_Steps_newIdentity
    rw [st_eq, b2_some, st_eq]
    have e7 : mI A 7 0 7 = ids := by rw [a3.2.2.2.1 7 0 cP7, h7]
    have k8 : mI A 10 (75 * s + 0 + 1) 0 = 8 := congrArg (fun z : sC => z.1) a2
    refine ⟨_, 0, rfl, fin _ _ _ (fr_trans (fr_trans (fr_trans (fr_mono a3 (fun k j z => Or.inl z)) (fr_I (Or.inl cP0))) (fr_I (Or.inr (Or.inl ⟨rfl, rfl⟩)))) (fr_I (Or.inl cP0))) ?_ ?_⟩
    · have k8' : mI A 10 (75 * s + 1) 0 = 8 := k8
      unfold cv cn
      simp [pI_I, pg_I, k8', e7]
    · simp [pI_I, e7]
  rw [if_neg f1, if_neg f1]
  by_cases f4 : d_field c = 4
  · rw [if_pos f4, if_pos f4]
    obtain ⟨A, a1, a2, a3⟩ := ce_exact (M := M) (c := 75 * s + 0 + 1) (v := 0) hc
    rw [a1, bd_some]
    exact ⟨A, 0, rfl, fin _ _ _ (fr_mono a3 (fun k j z => Or.inl z)) a2 (by rw [a3.2.2.2.1 7 0 cP7, h7])⟩
  rw [if_neg f4, if_neg f4]
  by_cases f6 : d_field c = 6
  · rw [if_pos f6, if_pos f6]
    obtain ⟨A, a1, a2, a3⟩ := ce_read (M := M) (c := 75 * s + 0 + 1) (n := 4) hc (by decide)
    rw [a1, bd_some]
    exact ⟨A, 0, rfl, fin _ _ _ (fr_mono a3 (fun k j z => Or.inl z)) a2 (by rw [a3.2.2.2.1 7 0 cP7, h7])⟩
  rw [if_neg f6, if_neg f6]
  obtain ⟨A, a1, a2, a3⟩ := ce_any (M := M) (c := 75 * s + 0 + 1) hc
  rw [a1, bd_some]
  exact ⟨A, 0, rfl, fin _ _ _ (fr_mono a3 (fun k j z => Or.inl z)) a2 (by rw [a3.2.2.2.1 7 0 cP7, h7])⟩
theorem st_help_l {m ids : Int32} {τ : sT} : ∀ (k y fu : Nat) (N : me_M), y + k = 6 → 1 ≤ y → k < fu → stp N s c → (∃ u, us N s u) → tk s M N → (∀ i, i < 75 → sv N s i = if 1 ≤ i ∧ i < y then s_bare 0 else τ i) → mI N 7 0 7 = ids → ∃ M1 r, f_Steps_help_l23 0 fu N m (nI y) = some (M1, r) ∧ tk s M M1 ∧ rs s M1 r (s_give c m τ ids) := by
  intro k
  induction k with
  | zero =>
    intro y fu N hy h1 hf hN hu ht hv h7
    obtain ⟨f2, rfl⟩ : ∃ f2, fu = f2 + 1 := ⟨fu - 1, by omega⟩
    obtain rfl : y = 6 := by omega
    obtain ⟨u, hu⟩ := hu
    obtain ⟨M1, r, a1, a2, a3⟩ := st_give (m := m) (τ := τ) (fu := f2) hN hu (by
      intro i hi
      rw [hv i hi]
      unfold s_lost
      by_cases e : 1 ≤ i ∧ i < 6
      · rw [if_pos e, if_pos (by omega)]
      · rw [if_neg e, if_neg (by omega)]) h7
    exact ⟨M1, r, a1, tk_trans ht a2, a3⟩
  | succ k ih =>
    intro y fu N hy h1 hf hN hu ht hv h7
    obtain ⟨f2, rfl⟩ : ∃ f2, fu = f2 + 1 := ⟨fu - 1, by omega⟩
    obtain ⟨u, hu⟩ := hu
    rw [f_Steps_help_l23, if_neg (fun z => by
      rw [show (5 : Int32) = nI 5 from rfl, nI_lti (by decide) (by omega)] at z
      omega), hN.2.2.2.2.2.2.2.2.2.1, bd_some, (hN.2.1.1 s hN.2.2.2.1).2, gd_pos (ix_ok (by omega) (by decide)), nI_tn (by omega), hN.2.1.2.1 s y hN.2.2.2.1 (by omega), bd_some]
    obtain ⟨A, a1, a2, a3⟩ := ce_clear (M := N) (c := 75 * s + y + 1)
    rw [a1, bd_some, nI_s]
    obtain ⟨q1, q2⟩ := fin_y (t := y) (by omega) hu (fr_mono a3 (fun k j z => Or.inl z))
    rw [a2] at q2
    refine ih (y + 1) f2 A (by omega) (by omega) (by omega) (stp_fr hN q1.1) q1.2.1 (tk_trans ht q1) ?_ ?_
    · intro i hi
      rw [q2 i hi]
      unfold up
      by_cases e : i = y
      · rw [if_pos e, if_pos (by omega)]
      · rw [if_neg e, hv i hi]
        by_cases e2 : 1 ≤ i ∧ i < y
        · rw [if_pos e2, if_pos (by omega)]
        · rw [if_neg e2, if_neg (by omega)]
    · rw [a3.2.2.2.1 7 0 cP7]; exact h7
theorem s_give_m {m m2 ids : Int32} {τ : sT} (h : d_field c = 1 → m = m2) : s_give c m τ ids = s_give c m2 τ ids := by
  unfold s_give
  by_cases f : d_field c = 1
  · rw [if_pos f, if_pos f, h f]
  · rw [if_neg f, if_neg f]
theorem far_1 {σ : sT} (hf : d_field c = 1) (h0 : s_far c kb vb σ = 0) : cK (σ 1) = 6 := by
  unfold s_far at h0
  rw [if_neg (by rw [hf]; decide), if_neg (by rw [hf]; decide), if_neg (by rw [hf]; decide)] at h0
  unfold s_fa1 at h0
  apply Classical.byContradiction
  intro z
  rw [if_neg z] at h0
  split at h0 <;> exact absurd h0 (by decide)
theorem st_help (h : stp M s c) (hs : sto M nm kb vb) {u : Nat} (hu : us M s u) (hw : s_wf nm (sv M s)) (hk : ∀ m, m < nm → 0 ≤ (kb (nI m)).toInt ∧ (kb (nI m)).toInt ≤ 512 ∧ 0 ≤ (vb (nI m)).toInt ∧ (vb (nI m)).toInt ≤ 512) : ∃ M1 r, f_Steps_help M 0 = some (M1, r) ∧ tk s M M1 ∧ rs s M1 r (s_help c kb vb (sv M s) (mI M 7 0 7)) := by
  obtain ⟨A, a1, w, v, a2, a3⟩ := st_far h hs hu hw hk
  obtain ⟨t1, t2, t3, t4, t5⟩ := up_w a2 a3 h hs
  unfold f_Steps_help s_help
  rw [a1, b2_some]
  by_cases g : s_far c kb vb (sv M s) = 0
  · rw [if_pos g, if_pos g, h.2.2.2.2.2.2.2.2.2.1, bd_some, (h.2.1.1 s h.2.2.2.1).2, gd_pos (by decide), h.2.1.2.1 s 1 h.2.2.2.1 (by decide), bd_some, st_eq]
    obtain ⟨M1, r, b1', b2', b3'⟩ := st_help_l (M := M) (m := mI A 10 (75 * s + 1 + 1) 2) (τ := sv M s) (ids := mI M 7 0 7) 5 1 fuel A (by decide) (by decide) (by unfold fuel; omega) t2 ⟨v, a3⟩ t1 (by
      intro i hi
      rw [if_neg (by omega), t4]) t5
    refine ⟨M1, r, b1', b2', ?_⟩
    rw [s_give_m (m2 := cM (sv M s 1))] at b3'
    · exact b3'
    · intro f1
      have k6 := far_1 f1 g
      have k6' : mI A 10 (75 * s + 1 + 1) 0 = 6 := by rw [a2]; exact k6
      rw [← t4]
      show _ = cM (cv A (75 * s + 1 + 1))
      unfold cv cn
      exact (if_pos (Or.inl k6')).symm
  · rw [if_neg g, if_neg g]
    exact ⟨A, _, rfl, t1, rfl⟩
end CI
