/-! PURE: program and run. -/
section JPR
variable {M R : me_M} {x y : Int32}
/-- the tape is emptied -/
theorem Iv_tape (h : Iv M R) : Iv (wI M 0 0 1 0) (wI R 1 0 2 0) := by
  obtain ⟨nm, g, tn, jt, tb, kb, vb, en, jk, jv, jh, W, hc, ⟨r1, r2, r3, ⟨r4, r5⟩, r6⟩, ⟨b1, b2, ⟨b3, b4, b5, b6⟩, b7, b8⟩, hp⟩ := h
  have e : ∀ k j, ¬ k = 1 → mI (wI R 1 0 2 0) k j = mI R k j := fun k j hk => wI_o (fun z => hk z.1)
  have f : ∀ k j, ¬ k = 0 → mI (wI M 0 0 1 0) k j = mI M k j := fun k j hk => wI_o (fun z => hk z.1)
  refine ⟨nm, g, 0, jt, tb, kb, vb, en, jk, jv, jh, W, ?_, ⟨ps_M_of rfl rfl r1, ?_, ?_, ⟨?_, ?_⟩, ?_⟩, ⟨b1, fun b hb => by omega, ⟨?_, ?_, ?_, ?_⟩, ?_, ?_⟩, ?_⟩
  · refine cI_k hc (cWr_k hc.2.1 hc.2.2.1 rfl (fun _ _ _ _ => rfl) (fun m => f 12 m (by decide)) (fun j _ => f 14 j (by decide)) (fun j _ => f 15 j (by decide)) ⟨by rw [f 5 0 (by decide)], by rw [f 5 0 (by decide)]⟩ ⟨rfl, rfl⟩) rfl rfl (fun _ _ _ _ => rfl) ⟨by rw [f 13 3 (by decide)], by rw [f 13 4 (by decide)]⟩ (us_all hc (fun j => f 10 j (by decide)) (fun j => f 9 j (by decide)) (fun _ => rfl)) (pI_place (by decide)) pI_same (by omega)
  · unfold kv; rw [e 14 8 (by decide)]; exact r2
  · obtain ⟨s1, s2, s3, s4⟩ := r3
    refine ⟨?_, ?_, ?_, ?_⟩
    · unfold rSh at s1 ⊢
      rw [e 13 0 (by decide), e 13 1 (by decide), e 13 2 (by decide), e 13 3 (by decide)]
      exact s1
    · rw [pL_I, e 14 5 (by decide), e 14 3 (by decide), pI_place (by decide), pI_place (by decide)]
      exact s2
    · rw [e 15 0 (by decide), e 14 1 (by decide), e 14 2 (by decide)]
      exact s3
    · rw [e 14 4 (by decide)]
      exact s4
  · rw [pI_place (by decide)]; exact r4
  · rw [pI_same]; rfl
  · exact ⟨by rw [e 15 0 (by decide)]; exact r6.1, vz_k r6.2 (fun z => by rw [pI_place (by decide)] at z; exact z) (fun x _ => by rw [e 14 2 (by decide)])⟩
  · rw [f 5 0 (by decide), pI_place (by decide)]; exact b3
  · rw [f 5 0 (by decide), pI_place (by decide)]; exact b4
  · rw [f 5 0 (by decide), pI_place (by decide)]; exact b5
  · rw [f 5 0 (by decide), pI_place (by decide)]; exact b6
  · rw [pI_place (by decide), pI_place (by decide)]; exact b7
  · rw [pI_place (by decide)]; exact b8
  · rcases hp with ⟨z1, z2, z3, z4, z5⟩ | ⟨p, n, B, gg, z1, z2, z3, z4⟩
    · exact Or.inl ⟨by rw [pI_place (by decide)]; exact z1, by rw [pI_place (by decide)]; exact z2, by rw [pI_place (by decide)]; exact z3, by rw [pI_place (by decide)]; exact z4, by rw [f 2 0 (by decide)]; exact z5⟩
    · exact Or.inr ⟨p, n, B, gg, z1, cPr_k z2 (fun q a b => pI_place (by omega)) (fun j => by rw [f 2 j (by decide)]) (fun q => by rw [f 4 0 (by decide)]) (fun j _ => f 13 j (by decide)) (fun j _ => f 15 j (by decide)) (fun _ _ => rfl), rPr_k z3 (fun q hq => pI_place (by omega)) (fun j _ => e 13 j (by decide)) (fun j _ => e 15 j (by decide)) (fun _ _ => rfl), fun q => ⟨(z4 q).1, by rw [pI_place (by decide)]; exact (z4 q).2⟩⟩
/-- the references and lengths that a run of the reference needs -/
theorem rSh_ps {nm : Nat} {tb : Nat → Prop} {kb vb : Int32 → Int32} {en : Nat → Nat} {S : me_M} (h : rSh nm tb kb vb en R) (hp : ps_M S) (e : ∀ j, j ≤ 3 → mI S 13 j = mI R 13 j) : rSh nm tb kb vb en S := by
  refine ⟨⟨rs_5 hp, rs_6 hp, rs_7 hp, rs_8 hp, rs_9 hp, rs_10 hp, rs_11 hp, rs_16 hp, rs_17 hp, rs_35 hp, rs_36 hp, rs_39 hp, rs_43 hp, rs_44 hp, rs_45 hp, rs_46 hp⟩, ⟨rz_13_0 hp, rz_13_1 hp, rz_13_2 hp, rz_13_3 hp, rz_14_1 hp, rz_14_2 hp, rz_14_3 hp, rz_14_4 hp, rz_14_5 hp, rz_14_6 hp, rz_14_7 hp, rz_15_0 hp, rz_16_1 hp, rz_16_2 hp, rz_16_4 hp, rz_16_5 hp⟩, ?_⟩
  rw [e 0 (by omega), e 1 (by omega), e 2 (by omega), e 3 (by omega)]
  exact h.2.2
theorem cSh_o {nm : Nat} {tb : Nat → Prop} {kb vb : Int32 → Int32} {en jk jv jh : Nat → Nat} {N : me_M} (h1 : cSh nm tb kb vb en jk jv jh M) (g : oP M N) : cSh nm tb kb vb en jk jv jh N := by
  obtain ⟨⟨⟨r0, r1, r2, r3, r4, r5, r6, r7, r9⟩, ⟨z1, z2, z3, z4, z5⟩, ⟨s1, s2, s3⟩, hv⟩, hs⟩ := h1
  have er : ∀ k j f, k = 5 ∨ k = 12 ∨ k = 19 → mR N k j f = mR M k j f := fun k j f hk => g.2.1 k j f (show ¬ (k = 9 ∨ k = 10 ∨ k = 11 ∨ k = 18) by omega) (show ¬ ((k = 4 ∧ f = 8) ∨ k = 17 ∨ (k = 7 ∧ (f = 5 ∨ f = 6))) by omega)
  have ez : ∀ k j, k = 14 ∨ k = 15 ∨ k = 16 ∨ k = 19 → mZ N k j = mZ M k j := fun k j hk => g.2.2.1 k j (show ¬ (k = 9 ∨ k = 10 ∨ k = 11 ∨ k = 18) by omega)
  have e12 : ∀ m, mI N 12 m = mI M 12 m := fun m => (g.1 12 m (fun z => by unfold pZ kS at z; omega)).1
  refine ⟨⟨⟨?_, ?_, ?_, ?_, ?_, ?_, ?_, ?_, ?_⟩, ⟨?_, ?_, ?_, ?_, ?_⟩, ⟨s1, by rw [ez 19 0 (by omega)]; exact s2, fun m hm => ?_⟩, fun m hm => ?_⟩, fun m hm => ?_⟩
  · rw [er 5 0 0 (by omega)]; exact r0
  · rw [er 5 0 1 (by omega)]; exact r1
  · rw [er 5 0 2 (by omega)]; exact r2
  · rw [er 5 0 3 (by omega)]; exact r3
  · rw [er 5 0 4 (by omega)]; exact r4
  · rw [er 5 0 5 (by omega)]; exact r5
  · rw [er 5 0 6 (by omega)]; exact r6
  · rw [er 5 0 7 (by omega)]; exact r7
  · rw [er 5 0 9 (by omega)]; exact r9
  · rw [ez 14 1 (by omega)]; exact z1
  · rw [ez 14 2 (by omega)]; exact z2
  · rw [ez 14 3 (by omega)]; exact z3
  · rw [ez 16 3 (by omega)]; exact z4
  · rw [ez 16 4 (by omega)]; exact z5
  · rw [er 19 0 m (by omega), e12]; exact s3 m hm
  · rw [er 12 m 5 (by omega), e12, ez 14 _ (by omega)]; exact hv m hm
  · have := hs m hm
    unfold sS at this ⊢
    rw [er 12 m 4 (by omega), er 12 m 5 (by omega), er 12 m 6 (by omega), e12, ez 14 _ (by omega), ez 14 _ (by omega), ez 15 _ (by omega)]
    exact this
theorem rRl_g {nm : Nat} {tb : Nat → Prop} {kb vb : Int32 → Int32} {en : Nat → Nat} {W : tyU} {S : me_M} (h : rRl nm tb kb vb en (Tb W) R) (hp : ps_M S) (g : gP R S) : rRl nm tb kb vb en (Tb W) S := by
  obtain ⟨s1, s2, s3, s4⟩ := h
  have e : ∀ k j, (k = 13 ∧ j ≤ 3) ∨ (k = 14 ∧ j ≤ 7) ∨ (k = 15 ∧ j = 0) → mI S k j = mI R k j := fun k j hk => by
    funext f
    exact g.2.2.2.1 k j f (fun z => by unfold pA at z; omega)
  have e1 : ∀ f, f = 34 ∨ f = 38 → mI S 1 0 f = mI R 1 0 f := fun f hf => g.2.2.2.1 1 0 f (fun z => by unfold pA at z; omega)
  have el : ∀ f, mL S 16 4 f = mL R 16 4 f := fun f => g.2.2.2.2 16 4 f (fun z => z.2.1 rfl)
  have e37 : mL S 1 0 37 = mL R 1 0 37 := g.2.2.2.2 1 0 37 (fun z => absurd z.1 (by decide))
  refine ⟨rSh_ps s1 hp (fun j hj => e 13 j (by omega)), ?_, ?_, ?_⟩
  · rw [e 14 3 (by omega), e1 34 (by omega), e1 38 (by omega), show mL S 16 4 = mL R 16 4 from funext el, e37]
    exact mo_Tb (T := Tb W) s2
  · rw [e 15 0 (by omega), e 14 1 (by omega), e 14 2 (by omega)]
    exact s3
  · rw [e 14 4 (by omega)]
    exact s4
theorem J_program (h : Iv M R) : (∃ M1 R2 rb, 0 < mZ M1 16 5 ∧ f_Law_program M 0 x y 5 = some (M1, 0) ∧ f_M_program R 0 x y = some (R2, rb) ∧ f_M_thrown R2 0 = some (R2, 0) ∧ mL M1 16 5 0 = rb.toInt64 ∧ Iv M1 R2) ∨ (∃ M1 R2 rb, fT1_G_program M 0 x y = some M1 ∧ f_M_program R 0 x y = some (R2, rb) ∧ f_M_thrown R2 0 = some (R2, 1) ∧ Iv M1 R2) := by
  have h2 := h
  obtain ⟨nm, g, tn, jt, tb, kb, vb, en, jk, jv, jh, W, hc, hr, hb, hp⟩ := h2
  have z16 : mZ M 16 5 = 1 := hc.2.2.2.2.1.2.2
  have hps := hr.1
  have t1 : mI M 0 0 1 = nI tn := hc.2.2.2.2.2.1.2
  have t2 : mI R 1 0 2 = nI tn := hr.2.2.2.1.2
  have tz : mZ M 14 jt = tl g := hc.2.2.2.2.2.2.1.2.1
  have tg : g ≤ 6 := hc.2.2.2.2.2.2.1.1
  have tt : tn ≤ tl g := hc.2.2.2.2.2.2.1.2.2.1
  have tl6 : tl g ≤ 65536 := by
    have : ∀ q, q < 7 → tl q ≤ 65536 := by decide
    exact this g (by omega)
  have no : f_M_program_b39 0 x y R = some (wI (wI R 1 0 0 1) 1 0 2 0, 0) := by
    unfold f_M_program_b39 f_M_program_b40
    rw [if_pos rfl, st_eq]
    unfold fuel
    rw [f_M_program_l57, if_pos (show (0 : Int32) = 0 from rfl), ite_self]
    unfold f_M_program_b126
    rw [st_eq, if_pos rfl]
  have bad : fT1_G_program M 0 x y = some (wI M 0 0 1 0) → f_M_program R 0 x y = f_M_program_b39 0 x y R → (∃ M1 R2 rb, fT1_G_program M 0 x y = some M1 ∧ f_M_program R 0 x y = some (R2, rb) ∧ f_M_thrown R2 0 = some (R2, 1) ∧ Iv M1 R2) := fun u v => ⟨_, _, _, u, v.trans no, by unfold f_M_thrown; rw [pI_place (by decide), pI_same], Iv_tape (Iv_thr h)⟩
  have i1 : f_M_in x.toInt64 1 2000 = some (b1 (¬ x < 1 ∧ ¬ 2000 < x)) := in_i (v := x) (a := 1) (b := 2000)
  have i2 : f_M_in y.toInt64 1 20000 = some (b1 (¬ y < 1 ∧ ¬ 20000 < y)) := in_i (v := y) (a := 1) (b := 20000)
  by_cases c1 : x < 1
  · refine Or.inr (bad ?_ ?_)
    · unfold fT1_G_program; rw [st_eq, st_eq, if_pos c1]
    · unfold f_M_program; rw [i1, bd_some, b1_f (fun z => z.1 c1), if_pos rfl]
  by_cases c2 : 2000 < x
  · refine Or.inr (bad ?_ ?_)
    · unfold fT1_G_program; rw [st_eq, st_eq, if_neg c1, if_pos c2]
    · unfold f_M_program; rw [i1, bd_some, b1_f (fun z => z.2 c2), if_pos rfl]
  by_cases c3 : nI tn < 8 * x
  · refine Or.inr (bad ?_ ?_)
    · unfold fT1_G_program; rw [st_eq, st_eq, if_neg c1, if_neg c2, t1, if_pos c3]
    · unfold f_M_program; rw [i1, bd_some, b1_t ⟨c1, c2⟩, if_neg (by decide), t2, if_pos c3]
  by_cases c4 : y < 1
  · refine Or.inr (bad ?_ ?_)
    · unfold fT1_G_program; rw [st_eq, st_eq, if_neg c1, if_neg c2, t1, if_neg c3, if_pos c4]
    · unfold f_M_program; rw [i1, bd_some, b1_t ⟨c1, c2⟩, if_neg (by decide), t2, if_neg c3, i2, bd_some, b1_f (fun z => z.1 c4), if_pos rfl]
  by_cases c5 : 20000 < y
  · refine Or.inr (bad ?_ ?_)
    · unfold fT1_G_program; rw [st_eq, st_eq, if_neg c1, if_neg c2, t1, if_neg c3, if_neg c4, if_neg (by rw [i32_lt] at c5; rw [i32_le]; omega)]
    · unfold f_M_program; rw [i1, bd_some, b1_t ⟨c1, c2⟩, if_neg (by decide), t2, if_neg c3, i2, bd_some, b1_f (fun z => z.2 c5), if_pos rfl]
  refine Or.inl ?_
  have lt0 : ∀ {v : Int32}, ¬ v < 1 → ¬ v < 0 := fun {v} a b => a (by rw [i32_lt] at b ⊢; have b : v.toInt < 0 := b; show v.toInt < 1; omega)
  obtain ⟨n, n1, en1⟩ := of_rng (n := 2001) (lt0 c1) (fun z => c2 (by rw [i32_le] at z; rw [i32_lt]; have z : (2001 : Int) ≤ x.toInt := z; show (2000 : Int) < x.toInt; omega)) (by decide)
  obtain ⟨B, B1, eB⟩ := of_rng (n := 20001) (lt0 c4) (fun z => c5 (by rw [i32_le] at z; rw [i32_lt]; have z : (20001 : Int) ≤ y.toInt := z; show (20000 : Int) < y.toInt; omega)) (by decide)
  have n0 : 1 ≤ n := by
    refine Nat.pos_of_ne_zero (fun z => c1 ?_)
    rw [en1, z]; decide
  have B0 : 1 ≤ B := by
    refine Nat.pos_of_ne_zero (fun z => c4 ?_)
    rw [eB, z]; decide
  have n8 : 8 * n ≤ tn := by
    rw [en1, show (8 : Int32) * nI n = nI (8 * n) by rw [show (8 : Int32) = nI 8 from rfl, mul_nI]] at c3
    refine Nat.le_of_not_lt (fun z => c3 ((nI_lti (by omega) (by omega)).mpr z))
  rw [en1, eB]
  have mz := hb.1.2.2.1
  have kbo : kbO nm kb vb := fun m hm => by
    obtain ⟨⟨a1, a2⟩, ⟨a3, a4⟩, _⟩ := mz.2 m hm
    exact ⟨a1, by omega, a3, by omega⟩
  obtain ⟨p, ep⟩ : ∃ p, p = w_ld (mI R 14 0) := ⟨_, rfl⟩
  have pc : ∀ s, s < n → p s = w_ld (mI M 14 jt) s := fun s hs => by
    rw [ep]
    exact w_cong (fun i hi => (hb.2.1 (8 * s + i) (by omega)).1.symm)
  have hsh := hc.2.1.1
  have rst1 : rst R nm kb vb := by
    obtain ⟨q1, q2⟩ := hr.2.2.1.1.2.2
    refine ⟨q1, fun m hm => ?_⟩
    obtain ⟨⟨a1, a2⟩, ⟨a3, a4⟩, _⟩ := mz.2 m hm
    have q3 := q2 m hm
    exact ⟨q3.1.trans (nI_of0 a1).symm, q3.2.1.trans (nI_of0 a3).symm⟩
  obtain ⟨M1, m1, m2, m3, m4, m5, m6, m7, m8⟩ := cprogram (p := p) (n := n) (B := B) hc.1 hsh.1.2.2.1 hc.2.2.2.2.2.1.1 kbo hc.2.2.2.2.1.1.1 n0 (by omega) B0 (by omega) t1 n8 (by omega) (by rw [tz]; exact tt) pc
  obtain ⟨R1, k1, k2, k3, k4, k5, k6, k7, k8⟩ := rprogram (p := p) (n := n) (B := B) hps hr.2.1 rst1 hr.2.2.2.1.1 kbo n0 (by omega) B0 (by omega) t2 n8 (by omega) (fun s _ => by rw [ep])
  obtain ⟨gg, eg⟩ : ∃ gg, gg = g_pr p n nm kb vb B := ⟨_, rfl⟩
  rw [← eg] at m1 m7 m8 k1 k7 k8
  have mz5 : mZ M1 16 5 = 1 := by rw [m4.2.2.1 16 5 (by decide)]; exact z16
  have oi : ∀ k j, ¬ pZ k j → mI M1 k j = mI M k j := fun k j z => (m4.1 k j z).1
  have ol : ∀ k j, ¬ pZ k j → mL M1 k j = mL M k j := fun k j z => (m4.1 k j z).2
  have or : ∀ k j f, k = 0 ∨ k = 6 → mR M1 k j f = mR M k j f := fun k j f hk => m4.2.1 k j f (show ¬ (k = 9 ∨ k = 10 ∨ k = 11 ∨ k = 18) by omega) (show ¬ ((k = 4 ∧ f = 8) ∨ k = 17 ∨ (k = 7 ∧ (f = 5 ∨ f = 6))) by omega)
  have on : ∀ k, ¬ (k = 9 ∨ k = 10 ∨ k = 11 ∨ k = 18) → mN M1 k = mN M k := fun k z => m4.2.2.2 k z
  have iv : Iv M1 R1 := by
    obtain ⟨c1, c2, c3, c4, ⟨⟨c5, c6, c7⟩, ⟨c8, c9, c10, c11⟩, c12⟩, ⟨c13, c14⟩, ⟨c15, c16, c17, c18, c19, c20⟩, c21⟩ := hc
    obtain ⟨w1, w2, w3, w4⟩ := c2
    refine ⟨nm, g, 0, jt, tb, kb, vb, en, jk, jv, jh, W, ⟨m2, ⟨cSh_o w1 m4, ?_, ?_, ?_⟩, c3, ?_, ⟨⟨?_, ?_, ?_⟩, ⟨?_, ?_, ?_, ?_⟩, mz5⟩, ⟨?_, m6⟩, ⟨c15, ?_, Nat.zero_le _, ?_, c19, c20⟩, ?_⟩, ⟨k2, k3, rRl_g hr.2.2.1 k2 k4, ⟨?_, k6⟩, ?_⟩, ⟨hb.1, fun b z => absurd z (Nat.not_lt_zero b), ⟨?_, ?_, ?_, ?_⟩, ?_, ?_⟩, Or.inr ⟨p, n, B, gg, ⟨n0, by omega, by omega⟩, m8, k8, fun z => ⟨eg, ?_⟩⟩⟩
    · rw [oi 14 3 (fun z => by unfold pZ kS at z; omega), oi 5 0 (fun z => by unfold pZ kS at z; omega), ol 16 4 (fun z => by unfold pZ kS at z; omega), ol 5 0 (fun z => by unfold pZ kS at z; omega)]
      exact mo_Tb (T := Tb W) w2
    · refine mst_e w3 (fun m hm i _ => ?_) (fun m hm i _ b _ => ?_) (fun m hm i _ b _ => ?_)
      · rw [oi 15 (jh m) (fun z => by have := (c3.1 m hm).2.2; unfold pZ kS at z; omega)]
      · rw [oi 14 (jk m) (fun z => by unfold pZ kS at z; omega)]
      · rw [oi 14 (jv m) (fun z => by unfold pZ kS at z; omega)]
    · rw [oi 14 1 (fun z => by unfold pZ kS at z; omega)]
      exact w4
    · unfold cCt at c4 ⊢
      rw [on 0 (by decide), on 1 (by decide), on 2 (by decide), on 3 (by decide), on 4 (by decide), on 5 (by decide), on 6 (by decide), on 7 (by decide), on 8 (by decide), on 12 (by decide), on 13 (by decide), on 14 (by decide), on 15 (by decide), on 16 (by decide), on 17 (by decide), on 19 (by decide)]
      exact c4
    · rw [or 0 0 0 (by omega)]; exact c5
    · rw [or 0 0 2 (by omega)]; exact c6
    · rw [or 0 0 8 (by omega)]; exact c7
    · rw [or 6 0 0 (by omega)]; exact c8
    · rw [or 6 0 1 (by omega)]; exact c9
    · rw [or 6 0 2 (by omega)]; exact c10
    · rw [or 6 0 3 (by omega)]; exact c11
    · rw [m5 3 (by decide)]; exact c13
    · rw [m4.2.2.1 14 jt (by decide)]; exact c16
    · rw [on 14 (by decide)]; exact c18
    · rw [on 14 (by decide), on 15 (by decide)]; exact c21
    · rw [k4.2.2.2.1 1 0 3 (fun z => by unfold pA at z; omega)]; exact hr.2.2.2.1.1
    · refine ⟨fun m hm i a b => ?_, vz_k hr.2.2.2.2.2 (fun z => ?_) (fun x _ => k4.2.2.2.1 14 2 x (fun z => by unfold pA at z; omega))⟩
      · rw [k4.2.2.2.1 15 0 _ (fun z => by unfold pA at z; omega)]; exact hr.2.2.2.2.1 m hm i a b
      · rw [k7] at z
        by_cases q : gg.1 = 0
        · rw [if_pos q] at z
          exact absurd z (by decide)
        · rw [if_neg q] at z
          exact z
    · rw [oi 5 0 (fun z => by unfold pZ kS at z; omega), k4.2.2.2.1 1 0 40 (fun z => by unfold pA at z; omega)]; exact hb.2.2.1.1
    · rw [oi 5 0 (fun z => by unfold pZ kS at z; omega), k4.2.2.2.1 1 0 41 (fun z => by unfold pA at z; omega)]; exact hb.2.2.1.2.1
    · rw [oi 5 0 (fun z => by unfold pZ kS at z; omega), k4.2.2.2.1 1 0 42 (fun z => by unfold pA at z; omega)]; exact hb.2.2.1.2.2.1
    · rw [oi 5 0 (fun z => by unfold pZ kS at z; omega), k4.2.2.2.1 1 0 74 (fun z => by unfold pA at z; omega)]; exact hb.2.2.1.2.2.2
    · rw [m7, k7, hb.2.2.2.1]
    · rw [m7]
      by_cases q : gg.1 = 0
      · rw [if_pos q]; exact Or.inr rfl
      · rw [if_neg q]; exact hb.2.2.2.2
    · rw [m7, if_pos z]
  refine ⟨wL M1 16 5 0 gg.1.toInt64, R1, gg.1, by show 0 < mZ M1 16 5; rw [mz5]; decide, ?_, k1, by unfold f_M_thrown; rw [k5], pL_same, Iv_out iv⟩
  unfold f_Law_program
  rw [m1, b2_some, mz5, gd_pos (by decide), st_eq]
end JPR
