/-! PURE: a run. -/
section JRN
variable {M R : me_M} {x y : Int32}
theorem us_run {nm S s u : Nat} {jk jv jh : Nat → Nat} {N : me_M} (g : grp nm jk jv jh S M N) (h : us M s u) (e : ¬ s = S) : us N s u := by
  obtain ⟨u1, u2, u3, u4⟩ := h
  have i9 : mI N 9 s = mI M 9 s := g.2.2.2.1 9 s (by omega) (by omega) (by omega) (by omega) (fun z => by
    rcases z with z | ⟨i, _, z⟩
    · exact e z.2
    · unfold cP at z; omega)
  refine ⟨u1, u2, by rw [i9]; exact u3, fun i hi hj => ?_⟩
  have i10 : mI N 10 (75 * s + i + 1) = mI M 10 (75 * s + i + 1) := g.2.2.2.1 10 _ (by omega) (by omega) (by omega) (by omega) (fun z => by
    rcases z with z | ⟨i, _, z⟩
    · omega
    · unfold cP at z; omega)
  have i11 : mL N 11 (nu (75 * s + i + 1)) = mL M 11 (nu (75 * s + i + 1)) := g.2.2.2.2.2.1 11 _ (by omega) (by omega) (by omega) (by omega) (fun z => by
    rcases z with z | ⟨i2, _, z⟩
    · omega
    · have a1 : nu (75 * s + i + 1) = 75 * s + i + 1 + 10 := if_neg (by omega)
      have a2 : nu (75 * S + i2 + 1) = 75 * S + i2 + 1 + 10 := if_neg (by omega)
      unfold cP at z
      rw [a1, a2] at z
      omega)
  have := u4 i hi hj
  unfold sv cv pg at this ⊢
  rw [i10, i11]
  exact this
theorem J_run (h : Iv M R) : (∃ M1 R2 rb, 0 < mZ M1 16 5 ∧ f_Law_run M 0 x 5 = some (M1, 0) ∧ f_M_run R 0 x = some (R2, rb) ∧ f_M_thrown R2 0 = some (R2, 0) ∧ mL M1 16 5 0 = rb ∧ Iv M1 R2) ∨ (∃ R2 rb, fT1_G_run M 0 x = some M ∧ f_M_run R 0 x = some (R2, rb) ∧ f_M_thrown R2 0 = some (R2, 1) ∧ Iv M R2) ∨ (∃ R2 rb, fT2_G_run M 0 x = some M ∧ f_M_run R 0 x = some (R2, rb) ∧ f_M_thrown R2 0 = some (R2, 2) ∧ Iv M R2) := by
  have h2 := h
  obtain ⟨nm, g, tn, jt, tb, kb, vb, en, jk, jv, jh, W, hc, hr, hb, hp⟩ := h2
  have z16 : mZ M 16 5 = 1 := hc.2.2.2.2.1.2.2
  have r8 : mR M 0 0 8 = some 0 := hc.2.2.2.2.1.1.2.2
  have hps := hr.1
  have i1 : f_M_in x.toInt64 0 2 = some (b1 (¬ x < 0 ∧ ¬ 2 < x)) := in_i (v := x) (a := 0) (b := 2)
  by_cases c1 : x < 0
  · refine Or.inr (Or.inl ⟨wI R 1 0 0 1, 0, ?_, ?_, thr_0, Iv_thr h⟩)
    · unfold fT1_G_run; rw [if_pos c1]
    · unfold f_M_run; rw [i1, bd_some, b1_f (fun z => z.1 c1), if_pos rfl, st_eq, pI_same, if_neg (by decide)]
  by_cases c2 : 2 < x
  · refine Or.inr (Or.inl ⟨wI R 1 0 0 1, 0, ?_, ?_, thr_0, Iv_thr h⟩)
    · unfold fT1_G_run; rw [if_neg c1, if_neg (by rw [i32_lt] at c2; rw [i32_le]; omega)]
    · unfold f_M_run; rw [i1, bd_some, b1_f (fun z => z.2 c2), if_pos rfl, st_eq, pI_same, if_neg (by decide)]
  have x2 : x ≤ 2 := by rw [i32_lt] at c2; rw [i32_le]; omega
  have no : mI M 0 0 12 = 0 → mI R 1 0 19 = 0 → (∃ R2 rb, fT2_G_run M 0 x = some M ∧ f_M_run R 0 x = some (R2, rb) ∧ f_M_thrown R2 0 = some (R2, 2) ∧ Iv M R2) := fun a b => by
    refine ⟨wI R 1 0 0 2, 0, ?_, ?_, thr_0, Iv_thr h⟩
    · unfold fT2_G_run; rw [if_neg c1, if_pos x2, if_pos a]
    · unfold f_M_run; rw [i1, bd_some, b1_t ⟨c1, c2⟩, if_neg (by decide), if_pos b, st_eq, pI_same, if_neg (by decide)]
  rcases hp with ⟨z1, z2, z3, z4, z5⟩ | ⟨p, n, B, gg, z1, z2, z3, z4⟩
  · exact Or.inr (Or.inr (no z3 z4))
  have z2' := z2
  have z3' := z3
  obtain ⟨c1', c2', c3', c4, _, c9, c10, c11, c12, c13⟩ := z2'
  obtain ⟨d1, d2, d3, d4, _, d9, d10, d11, d12⟩ := z3'
  by_cases g0 : ¬ gg.1 = 0
  · rw [b1_f g0] at c4 d4
    exact Or.inr (Or.inr (no c4 d4))
  have g0 : gg.1 = 0 := Classical.not_not.mp g0
  rw [b1_t g0] at c4 d4
  refine Or.inl ?_
  have q12 : ¬ mI M 0 0 12 = 0 := by rw [c4]; decide
  have q19 : ¬ mI R 1 0 19 = 0 := by rw [d4]; decide
  have mode : x = 0 ∨ x = 1 ∨ x = 2 := by
    obtain ⟨s, s1, s2⟩ := of_rng (n := 3) c1 (fun z => c2 (by rw [i32_le] at z; rw [i32_lt]; have z : (3 : Int) ≤ x.toInt := z; show (2 : Int) < x.toInt; omega)) (by decide)
    have : s = 0 ∨ s = 1 ∨ s = 2 := by omega
    rcases this with e | e | e <;> rw [s2, e]
    · exact Or.inl rfl
    · exact Or.inr (Or.inl rfl)
    · exact Or.inr (Or.inr rfl)
  obtain ⟨c14, c15⟩ := c12 g0
  obtain ⟨d14, d15, d16, d17, d18⟩ := d11 g0
  obtain ⟨eg, w13⟩ := z4 g0
  obtain ⟨⟨bB, bD, bz, b1'⟩, bt, ⟨br1, br2, br3, br4⟩, bw1, bw2⟩ := hb
  have zW : uZ W ≤ 2000 := hc.2.1.2.1.2.2.2.1.2
  have eZ1 : mI M 5 0 8 = nI (uZ W) := hc.2.1.2.1.2.2.2.1.1
  have eZ2 : mI R 1 0 34 = nI (uZ W) := hr.2.2.1.2.1.2.2.2.1.1
  rw [eg] at c14 c15 d16 d18
  obtain ⟨k, T1, N1, N2, k2, kT, kp, kq⟩ := acc_run (tb := tb) (W := W) (q := mL M 16 1) z1.1 z1.2.1 z1.2.2 bz (by rw [← eg]; exact g0) zW c15
  have hss : ss M := hc.1.2.2.2.2.2.1
  obtain ⟨P, ka, wa, _, ro⟩ := hc.1.2.2.2.2.2.2.2.2.2.2.2
  have l9 : 1 < mN M 9 := by rw [ro.1]; omega
  obtain ⟨u, hu⟩ := hc.1.2.2.2.2.2.2.2.2.2.2.1 1 l9
  have hk6 := hc.2.2.2.2.1.2.1
  obtain ⟨cc1, cc2, cc3, cc4, cc5, cc6, cc7, cc8⟩ := hc.1.2.1
  have key : ∀ (N' : Nat) (n' : Nat) (q : Nat → Int64) (jp jr : Nat), jp = (if x = 2 then 1 else 0) → jr = (if x = 2 then 2 else 1) → (mR M 2 jp 0 = some jp ∧ mZ M 16 jp = 2000 ∧ mI M 2 jp 3 = nI n' ∧ ∀ t, t < n' → mL M 16 jp t = q t) → (∀ t, t < n' → mL R 16 jr t = q t) → gRun q n' nm tb kb vb en k (T0 W) 0 T1 N' → ∃ M1 R2 rb, 0 < mZ M1 16 5 ∧ f_Law_run M 0 x 5 = some (M1, 0) ∧ f_M_run R 0 x = some (R2, rb) ∧ f_M_thrown R2 0 = some (R2, 0) ∧ mL M1 16 5 0 = rb ∧ Iv M1 R2 := by
    intro N' n' q jp jr ejp ejr hq1 hq2 hg
    obtain ⟨N, n1, n2, n3, n4, n5, n6, n7, n8⟩ := krun hc.2.1 ejp hss l9 hu hk6 hc.2.2.1 bz b1' hq1 hg kT k2
    obtain ⟨S, s1, s2, s3, s4, s5, s6, s7, s8, s9, s10⟩ := rrun_ hr.2.2.1 bB bD q19 mode ejr bz b1' hq2 hg kT k2
    have nI_ : ∀ k j, ¬ (k = 5 ∧ j = 0) → ¬ (k = 2 ∧ j ≤ 1) → ¬ (k = 14 ∧ (j = 1 ∨ j = 2 ∨ j = 3 ∨ ∃ m, m < nm ∧ (j = jk m ∨ j = jv m))) → ¬ (k = 15 ∧ ∃ m, m < nm ∧ j = jh m) → ¬ sP 1 k j → mI N k j = mI M k j := n3.2.2.2.1
    have np : ∀ k j, ¬ (k = 9 ∨ k = 10 ∨ k = 11) → ¬ sP 1 k j := fun k j hk z => by
      rcases z with z | ⟨i, _, z⟩
      · omega
      · unfold cP at z; omega
    have n0 : mI N 0 0 = mI M 0 0 := nI_ 0 0 (by omega) (by omega) (by omega) (by omega) (np 0 0 (by decide))
    have us_ : ∀ s, s < mN M 9 → ∃ u, us N s u := fun s hs => by
      by_cases e : s = 1
      · rw [e]; exact n8
      · obtain ⟨u, hu⟩ := hc.1.2.2.2.2.2.2.2.2.2.2.1 s hs
        exact ⟨u, us_run n3 hu e⟩
    have dj := hc.2.2.1
    have iv : Iv N S := by
      refine ⟨nm, g, tn, jt, tb, kb, vb, en, jk, jv, jh, tyW T1, cI_k hc n2 n3.2.1 n3.1 n3.2.2.1 ⟨?_, ?_⟩ us_ (by rw [n0]) (by rw [n0]; exact hc.2.2.2.2.2.1.2) (Nat.le_refl _), ⟨ps_M_of s5.1 s5.2.2.1 hps, ?_, s2, ⟨?_, ?_⟩, ?_⟩, ⟨⟨s3, s4, bz, b1'⟩, ?_, ⟨?_, ?_, ?_, ?_⟩, ?_, ?_⟩, Or.inr ⟨p, n, B, gg, z1, cPr_k z2 (fun f _ _ => by rw [n0]) (fun j => n3.2.2.2.2.1 j 3 (Or.inl rfl)) (fun f => by rw [nI_ 4 0 (by omega) (by omega) (by omega) (by omega) (np 4 0 (by decide))]) (fun j _ => nI_ 13 j (by omega) (by omega) (by omega) (by omega) (np 13 j (by decide))) (fun j hj => nI_ 15 j (by omega) (by omega) (by omega) (fun z => by obtain ⟨m, m1, m2⟩ := z.2; have := (dj.1 m m1).2.2; omega) (np 15 j (by decide))) (fun j hj => n3.2.2.2.2.2.1 16 j (by omega) (by omega) (by omega) (by omega) (np 16 j (by decide))), rPr_k z3 (fun f hf => s5.2.2.2.2.1 f (by omega)) (fun j hj => s5.2.2.2.1 13 j (by omega) (by omega) (by omega)) (fun j hj => s5.2.2.2.1 15 j (by omega) (by omega) (by omega)) (fun j hj => s5.2.2.2.2.2.1 16 j (by omega) (by omega) (by omega) (by omega)), fun z => ⟨eg, by rw [n0]; exact w13⟩⟩⟩
      · rw [nI_ 13 3 (by omega) (by omega) (by omega) (by omega) (np 13 3 (by decide))]
      · rw [nI_ 13 4 (by omega) (by omega) (by omega) (by omega) (np 13 4 (by decide))]
      · unfold kv; rw [s5.2.2.2.1 14 8 (by omega) (by omega) (by omega)]; exact hr.2.1
      · rw [s5.2.2.2.2.1 3 (by omega)]; exact hr.2.2.2.1.1
      · rw [s5.2.2.2.2.1 2 (by omega)]; exact hr.2.2.2.1.2
      · refine ⟨fun m hm i a b => ?_, fun z => absurd z (by rw [s5.2.2.2.2.1 4 (by omega), ← bw1, w13]; decide)⟩
        rw [s5.2.2.2.2.2.2 _ (fun z => ?_)]
        · exact hr.2.2.2.2.1 m hm i a b
        · obtain ⟨l, i2, l1, l2, l3⟩ := z
          have l4 := (bz.2 l l1).2.2
          have : l = m := by omega
          rw [this] at l2 l3
          omega
      · obtain ⟨_, _, _, _, c19, c20⟩ := hc.2.2.2.2.2.2.1
        rw [nI_ 14 jt (by omega) (by omega) (fun z => by
          rcases z.2 with q | q | q | ⟨m, m1, m2⟩
          · omega
          · omega
          · omega
          · have := c20 m m1; omega) (by omega) (np 14 jt (by decide)), s5.2.2.2.1 14 0 (by omega) (by omega) (by omega)]
        exact bt
      · rw [n4, s7, br1]
      · rw [n5, s8]
      · rw [n6, s9]
      · rw [n7, s10, eZ1, eZ2]
      · rw [n0, s5.2.2.2.2.1 4 (by omega)]; exact bw1
      · rw [n0]; exact bw2
    refine ⟨wL N 16 5 0 (tyC T1 0).2.1, S, (tyC T1 0).2.1, by show 0 < mZ N 16 5; rw [n3.2.1, z16]; decide, ?_, s1, by unfold f_M_thrown; rw [s6], pL_same, Iv_out iv⟩
    unfold f_Law_run f_G_run
    rw [if_neg c1, if_pos x2, if_neg q12, r8, bd_some, n1, b2_some, b2_some, z16, gd_pos (by decide), st_eq]
  by_cases e2 : x = 2
  · refine key N2 _ (mL M 16 1) 1 2 (by rw [if_pos e2]) (by rw [if_pos e2]) ⟨cc7, cc8, c14, fun t _ => rfl⟩ (fun t ht => ?_) kq
    obtain ⟨s, t1, t2, t3⟩ := np_sur n t ht
    rw [← t3, d18 s t1 t2, c15 s t1 t2]
  · exact key N1 n p 0 1 (by rw [if_neg e2]) (by rw [if_neg e2]) ⟨cc1, cc2, c10, c11⟩ d15 kp
end JRN
