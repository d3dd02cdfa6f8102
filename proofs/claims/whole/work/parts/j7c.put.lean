/-! PURE: put. -/
section JPU
variable {M R : me_M} {x y : Int32}
/-- the tape is emptied, all else is the same -/
theorem tape_c {nm g tn jt : Nat} {tb : Nat → Prop} {kb vb : Int32 → Int32} {en jk jv jh : Nat → Nat} {W : tyU} (hc : cI_ nm g tn jt tb kb vb en jk jv jh W M) (hr : rI_ nm tn tb kb vb en W R) (hb : bI_ nm tn jt tb kb vb en W M R) (hp : pI_ nm kb vb M R) : cI_ nm g 0 jt tb kb vb en jk jv jh W (wI M 0 0 1 0) ∧ rI_ nm 0 tb kb vb en W (wI R 1 0 2 0) ∧ bI_ nm 0 jt tb kb vb en W (wI M 0 0 1 0) (wI R 1 0 2 0) ∧ pI_ nm kb vb (wI M 0 0 1 0) (wI R 1 0 2 0) := by
  obtain ⟨r1, r2, r3, ⟨r4, r5⟩, r6⟩ := hr
  obtain ⟨b1, b2, ⟨b3, b4, b5, b6⟩, b7, b8⟩ := hb
  have e : ∀ k j, ¬ k = 1 → mI (wI R 1 0 2 0) k j = mI R k j := fun k j hk => wI_o (fun z => hk z.1)
  have f : ∀ k j, ¬ k = 0 → mI (wI M 0 0 1 0) k j = mI M k j := fun k j hk => wI_o (fun z => hk z.1)
  refine ⟨?_, ⟨ps_M_of rfl rfl r1, ?_, ?_, ⟨?_, ?_⟩, ?_⟩, ⟨b1, fun b hb => by omega, ⟨?_, ?_, ?_, ?_⟩, ?_, ?_⟩, ?_⟩
  · refine cI_k hc (cWr_k hc.2.1 hc.2.2.1 rfl (fun _ _ _ _ => rfl) (fun m => f 12 m (by decide)) (fun j _ => f 14 j (by decide)) (fun j _ => f 15 j (by decide)) ⟨by rw [f 5 0 (by decide)], by rw [f 5 0 (by decide)]⟩ ⟨rfl, rfl⟩) rfl rfl (fun _ _ _ _ => rfl) ⟨by rw [f 13 3 (by decide)], by rw [f 13 4 (by decide)]⟩ (us_all hc (fun j => f 10 j (by decide)) (fun j => f 9 j (by decide)) (fun _ => rfl)) (pI_place (by decide)) pI_same (by omega)
  · unfold kv; rw [e 14 8 (by decide)]; exact r2
  · obtain ⟨s1, s2, s3, s4⟩ := r3
    refine ⟨?_, ?_, ?_, ?_⟩
    · unfold rSh at s1 ⊢
      rw [e 13 0 (by decide), e 13 1 (by decide), e 13 2 (by decide), e 13 3 (by decide)]
      exact s1
    · rw [pL_I, e 14 5 (by decide), e 14 3 (by decide), pI_place (by decide), pI_place (by decide)]
      exact s2
    · rw [e 15 0 (by decide), e 14 1 (by decide), e 14 2 (by decide)]
      exact s3
    · rw [e 14 4 (by decide)]
      exact s4
  · rw [pI_place (by decide)]; exact r4
  · rw [pI_same]; rfl
  · exact ⟨by rw [e 15 0 (by decide)]; exact r6.1, vz_k r6.2 (fun z => by rw [pI_place (by decide)] at z; exact z) (fun x _ => by rw [e 14 2 (by decide)])⟩
  · rw [f 5 0 (by decide), pI_place (by decide)]; exact b3
  · rw [f 5 0 (by decide), pI_place (by decide)]; exact b4
  · rw [f 5 0 (by decide), pI_place (by decide)]; exact b5
  · rw [f 5 0 (by decide), pI_place (by decide)]; exact b6
  · rw [pI_place (by decide), pI_place (by decide)]; exact b7
  · rw [pI_place (by decide)]; exact b8
  · rcases hp with ⟨z1, z2, z3, z4, z5⟩ | ⟨p, n, B, gg, z1, z2, z3, z4⟩
    · exact Or.inl ⟨by rw [pI_place (by decide)]; exact z1, by rw [pI_place (by decide)]; exact z2, by rw [pI_place (by decide)]; exact z3, by rw [pI_place (by decide)]; exact z4, by rw [f 2 0 (by decide)]; exact z5⟩
    · exact Or.inr ⟨p, n, B, gg, z1, cPr_k z2 (fun q a b => pI_place (by omega)) (fun j => by rw [f 2 j (by decide)]) (fun q => by rw [f 4 0 (by decide)]) (fun j _ => f 13 j (by decide)) (fun j _ => f 15 j (by decide)) (fun _ _ => rfl), rPr_k z3 (fun q hq => pI_place (by omega)) (fun j _ => e 13 j (by decide)) (fun j _ => e 15 j (by decide)) (fun _ _ => rfl), fun q => ⟨(z4 q).1, by rw [pI_place (by decide)]; exact (z4 q).2⟩⟩
theorem rput_k {T : Nat → Int32} {nm m K : Nat} {mkb : Int32} (hK : mI R 13 1 m = nI K) (hK2 : K ≤ 64) (hm : m < 4) (hp : ps_M R) (hT : ∀ a, mI R 14 0 a = T a) (hB : ∀ a, a < K → isB (T a)) : ∀ (k b fu : Nat) (N : me_M), b + k = K → k < fu → gf (fun k j _ => k = 14 ∧ j = 6) (fun _ _ _ => False) R N → (∀ c, c < b → mI N 14 6 c = T c) → ∃ N1, f_M_put_l84 0 (nI m) fu N (nI b) = f_M_put_l114 0 (nI m) fuel N1 0 ∧ gf (fun k j _ => k = 14 ∧ j = 6) (fun _ _ _ => False) R N1 ∧ ∀ c, c < K → mI N1 14 6 c = T c := by
  intro k
  induction k with
  | zero =>
    intro b fu N e hf gN h3
    obtain ⟨fu, rfl⟩ : ∃ f, fu = f + 1 := ⟨fu - 1, by omega⟩
    have hN := gf_ps gN hp
    rw [f_M_put_l84, rs_6 hN, bd_some, rz_13_1 hN, nI_tn (by omega), gd_pos (ix_t (by omega) (by decide)), gN.2.2.2.1 13 1 m (fun z => absurd z.1 (by decide)), hK, if_pos ((nI_lei (by omega) (by omega)).mpr (by omega))]
    rw [show b = K by omega] at h3
    exact ⟨N, rfl, gN, h3⟩
  | succ k ih =>
    intro b fu N e hf gN h3
    obtain ⟨fu, rfl⟩ : ∃ f, fu = f + 1 := ⟨fu - 1, by omega⟩
    have hN := gf_ps gN hp
    rw [f_M_put_l84, rs_6 hN, bd_some, rz_13_1 hN, nI_tn (by omega), gd_pos (ix_t (by omega) (by decide)), gN.2.2.2.1 13 1 m (fun z => absurd z.1 (by decide)), hK, if_neg (fun z => by have := (nI_lei (by omega) (by omega)).mp z; omega), rs_45 hN, bd_some, rs_1 hN, bd_some, nI_tn (by omega), rz_14_0 hN, gd_pos (ix_t (by omega) (by decide)), rz_14_6 hN, gd_pos (ix_t (by omega) (by decide)), st_eq, nI_s, gN.2.2.2.1 14 0 b (fun z => absurd z.2 (by decide)), hT, nar_B (hB b (by omega))]
    refine ih (b + 1) fu _ (by omega) (by omega) (gf_trans gN (gf_I ⟨rfl, rfl⟩)) (fun c hc => ?_)
    by_cases eb : c = b
    · rw [eb, pI_same]
    · rw [pI_place eb]; exact h3 c (by omega)
theorem rput_v {T : Nat → Int32} {m K V : Nat} (hK : mI R 13 1 m = nI K) (hV : mI R 13 2 m = nI V) (hK2 : K ≤ 64) (hV2 : V ≤ 64) (hm : m < 4) (hp : ps_M R) (hT : ∀ a, mI R 14 0 a = T a) (hB : ∀ a, a < V → isB (T (K + a))) : ∀ (k b fu : Nat) (N : me_M), b + k = V → k < fu → gf (fun k j _ => k = 14 ∧ j = 7) (fun _ _ _ => False) R N → (∀ c, c < b → mI N 14 7 c = T (K + c)) → ∃ N1, f_M_put_l114 0 (nI m) fu N (nI b) = b2 (f_M_update N1 0 (nI m)) (fun (M5 : me_M) (r6 : Int32) => some (M5, r6)) ∧ gf (fun k j _ => k = 14 ∧ j = 7) (fun _ _ _ => False) R N1 ∧ ∀ c, c < V → mI N1 14 7 c = T (K + c) := by
  intro k
  induction k with
  | zero =>
    intro b fu N e hf gN h3
    obtain ⟨fu, rfl⟩ : ∃ f, fu = f + 1 := ⟨fu - 1, by omega⟩
    have hN := gf_ps gN hp
    rw [f_M_put_l114, rs_7 hN, bd_some, rz_13_2 hN, nI_tn (by omega), gd_pos (ix_t (by omega) (by decide)), gN.2.2.2.1 13 2 m (fun z => absurd z.1 (by decide)), hV, if_pos ((nI_lei (by omega) (by omega)).mpr (by omega))]
    rw [show b = V by omega] at h3
    exact ⟨N, rfl, gN, h3⟩
  | succ k ih =>
    intro b fu N e hf gN h3
    obtain ⟨fu, rfl⟩ : ∃ f, fu = f + 1 := ⟨fu - 1, by omega⟩
    have hN := gf_ps gN hp
    rw [f_M_put_l114, rs_7 hN, bd_some, rz_13_2 hN, nI_tn (by omega), gd_pos (ix_t (by omega) (by decide)), gN.2.2.2.1 13 2 m (fun z => absurd z.1 (by decide)), hV, if_neg (fun z => by have := (nI_lei (by omega) (by omega)).mp z; omega), rs_46 hN, bd_some, rs_1 hN, bd_some, rs_6 hN, bd_some, rz_13_1 hN, gd_pos (ix_t (by omega) (by decide)), gN.2.2.2.1 13 1 m (fun z => absurd z.1 (by decide)), hK, nI_add, nI_tn (by omega), nI_tn (by omega), rz_14_0 hN, gd_pos (ix_t (by omega) (by decide)), rz_14_7 hN, gd_pos (ix_t (by omega) (by decide)), st_eq, nI_s, gN.2.2.2.1 14 0 (K + b) (fun z => absurd z.2 (by decide)), hT, nar_B (hB b (by omega))]
    refine ih (b + 1) fu _ (by omega) (by omega) (gf_trans gN (gf_I ⟨rfl, rfl⟩)) (fun c hc => ?_)
    by_cases eb : c = b
    · rw [eb, pI_same]
    · rw [pI_place eb]; exact h3 c (by omega)
/-- the maps are others -/
theorem Iv_m {nm g tn jt : Nat} {tb : Nat → Prop} {kb vb : Int32 → Int32} {en jk jv jh : Nat → Nat} {W W2 : tyU} {N S : me_M} (hc : cI_ nm g tn jt tb kb vb en jk jv jh W M) (hr : rI_ nm tn tb kb vb en W R) (hb : bI_ nm tn jt tb kb vb en W M R) (hp : pI_ nm kb vb M R) (hW : uP W2 = uP W ∧ uZ W2 = uZ W ∧ uC W2 = uC W ∧ uT W2 = uT W ∧ uN W2 = uN W ∧ uL W2 = uL W) (n1 : mst nm tb kb vb en W2 (fun m => mI N 15 (jh m)) (fun m i b => mI N 14 (jk m) (i * kn kb m + b)) (fun m i b => mI N 14 (jv m) (i * kn vb m + b))) (n2 : sgp nm jk jv jh M N) (n3 : ∀ j, j ≤ 3 → mI N 14 j = mI M 14 j) (n4 : mL N = mL M) (n5 : mR N = mR M) (n6 : mI N 5 0 = mI M 5 0) (s1 : mR S = mR R) (s2 : mZ S = mZ R) (s3 : ∀ k j, ¬ (k = 14 ∧ (j = 1 ∨ j = 2 ∨ j = 6 ∨ j = 7)) → ¬ (k = 15 ∧ j = 0) → mI S k j = mI R k j) (s4 : ∀ k j, k = 1 ∨ k = 16 → mL S k j = mL R k j) (s5 : rMs nm tb kb vb en W2 S) (s6 : ∀ x, ¬ (∃ l i, l < nm ∧ i < en l ∧ x = 64 * l + i) → mI S 15 0 x = mI R 15 0 x) (s7 : ∀ x, 4096 * nm ≤ x → mI S 14 2 x = mI R 14 2 x) (u1 : uBy W2) (u2 : uD nm tb kb en W2) : Iv N S := by
  obtain ⟨v1, v2, v3, v4, v5, v6⟩ := hW
  have dj := hc.2.2.1
  have nI_ : ∀ k j, ¬ (k = 5 ∧ j = 0) → ¬ k = 14 → ¬ (k = 15 ∧ 6 < j) → mI N k j = mI M k j := fun k j a b c => n2.2.2.2.1 k j a (fun z => b z.1) (fun z => by
    obtain ⟨m, m1, m2⟩ := z.2
    have := (dj.1 m m1).2.2
    exact c ⟨z.1, by omega⟩)
  refine ⟨nm, g, tn, jt, tb, kb, vb, en, jk, jv, jh, W2, ?_, ⟨ps_M_of s1 s2 hr.1, ?_, ⟨?_, ?_, s5, ?_⟩, ⟨?_, ?_⟩, ?_⟩, ⟨⟨u1, u2, hb.1.2.2⟩, ?_, ⟨?_, ?_, ?_, ?_⟩, ?_, ?_⟩, ?_⟩
  · obtain ⟨w1, ⟨w2, w3, w4, w5, w6, w7⟩, w8, w9⟩ := hc.2.1
    refine cI_k hc ⟨cSh_k w1 n2.2.1 (fun _ _ _ _ => by rw [n5]) (fun m => nI_ 12 m (by omega) (by omega) (by omega)), ?_, n1, ?_⟩ n2.2.1 n2.1 (fun _ _ _ _ => by rw [n5]) ⟨by rw [nI_ 13 3 (by omega) (by omega) (by omega)], by rw [nI_ 13 4 (by omega) (by omega) (by omega)]⟩ (us_all hc (fun j => nI_ 10 j (by omega) (by omega) (by omega)) (fun j => nI_ 9 j (by omega) (by omega) (by omega)) (fun j => by rw [n4])) (by rw [nI_ 0 0 (by omega) (by omega) (by omega)]) (by rw [nI_ 0 0 (by omega) (by omega) (by omega)]; exact hc.2.2.2.2.2.1.2) (Nat.le_refl _)
    · rw [n3 3 (by omega), n6, n4]
      have mm : mo rc_ (Tb W2) (mL M 16 3) (mI M 14 2) (mI M 14 3) (mI M 5 0 8) (mI M 5 0 10) (mL M 16 4) (mL M 5 0 11) := ⟨w2, w3, fun a ha => (w4 a ha).trans (show uP W a = uP W2 a by rw [v1]), ⟨w5.1.trans (show nI (uZ W) = nI (uZ W2) by rw [v2]), show uZ W2 ≤ 2000 by rw [v2]; exact w5.2⟩, ⟨w6.1.trans (show nI (uN W) = nI (uN W2) by rw [v5]), show uN W2 ≤ 1000 by rw [v5]; exact w6.2.1, show ∀ i, i < uN W2 → mL M 16 4 i = uL W2 i by rw [v5, v6]; exact w6.2.2⟩, w7.trans (show uT W = uT W2 by rw [v4])⟩
      exact mo_Tb (T := Tb W2) mm
    · rw [n3 1 (by omega), v3]; exact w9
  · unfold kv; rw [s3 14 8 (by omega) (by omega)]; exact hr.2.1
  · exact rSh_ps hr.2.2.1.1 (ps_M_of s1 s2 hr.1) (fun j hj => s3 13 j (by omega) (by omega))
  · obtain ⟨w2, w3, w4, w5, w6, w7⟩ := hr.2.2.1.2.1
    rw [s3 14 3 (by omega) (by omega), s3 1 0 (by omega) (by omega), s4 16 4 (by omega), s4 1 0 (by omega)]
    have mm : mo rr_ (Tb W2) (mL R 16 5) (mI R 14 5) (mI R 14 3) (mI R 1 0 34) (mI R 1 0 38) (mL R 16 4) (mL R 1 0 37) := ⟨w2, w3, fun a ha => (w4 a ha).trans (show uP W a = uP W2 a by rw [v1]), ⟨w5.1.trans (show nI (uZ W) = nI (uZ W2) by rw [v2]), show uZ W2 ≤ 2000 by rw [v2]; exact w5.2⟩, ⟨w6.1.trans (show nI (uN W) = nI (uN W2) by rw [v5]), show uN W2 ≤ 1000 by rw [v5]; exact w6.2.1, show ∀ i, i < uN W2 → mL R 16 4 i = uL W2 i by rw [v5, v6]; exact w6.2.2⟩, w7.trans (show uT W = uT W2 by rw [v4])⟩
    exact mo_Tb (T := Tb W2) mm
  · intro a a1 a2
    rw [s3 14 4 (by omega) (by omega)]
    show mI R 14 4 a = uC W2 a
    rw [v3]
    exact hr.2.2.1.2.2.2 a a1 a2
  · rw [s3 1 0 (by omega) (by omega)]; exact hr.2.2.2.1.1
  · rw [s3 1 0 (by omega) (by omega)]; exact hr.2.2.2.1.2
  · refine ⟨fun m hm i a b => ?_, vz_k hr.2.2.2.2.2 (fun z => by rw [s3 1 0 (by omega) (by omega)] at z; exact z) s7⟩
    rw [s6 _ (fun z => ?_)]
    · exact hr.2.2.2.2.1 m hm i a b
    · obtain ⟨l, i2, l1, l2, l3⟩ := z
      have l4 := (hb.1.2.2.1.2 l l1).2.2
      have : l = m := by omega
      rw [this] at l2 l3
      omega
  · obtain ⟨_, _, _, _, c19, c20⟩ := hc.2.2.2.2.2.2.1
    have ej : mI N 14 jt = mI M 14 jt := n2.2.2.2.1 14 jt (by omega) (fun z => by
      rcases z.2 with q | q | ⟨m, m1, m2⟩
      · omega
      · omega
      · have := c20 m m1; omega) (by omega)
    rw [ej, s3 14 0 (by omega) (by omega)]
    exact hb.2.1
  · rw [n6, s3 1 0 (by omega) (by omega)]; exact hb.2.2.1.1
  · rw [n6, s3 1 0 (by omega) (by omega)]; exact hb.2.2.1.2.1
  · rw [n6, s3 1 0 (by omega) (by omega)]; exact hb.2.2.1.2.2.1
  · rw [n6, s3 1 0 (by omega) (by omega)]; exact hb.2.2.1.2.2.2
  · rw [nI_ 0 0 (by omega) (by omega) (by omega), s3 1 0 (by omega) (by omega)]; exact hb.2.2.2.1
  · rw [nI_ 0 0 (by omega) (by omega) (by omega)]; exact hb.2.2.2.2
  · have i0 := nI_ 0 0 (by omega) (by omega) (by omega)
    have g1 : ∀ f, mI S 1 0 f = mI R 1 0 f := fun f => by rw [s3 1 0 (by omega) (by omega)]
    rcases hp with ⟨z1, z2, z3, z4, z5⟩ | ⟨p, n, B, gg, z1, z2, z3, z4⟩
    · exact Or.inl ⟨by rw [i0]; exact z1, by rw [g1 18]; exact z2, by rw [i0]; exact z3, by rw [g1 19]; exact z4, by rw [nI_ 2 0 (by omega) (by omega) (by omega)]; exact z5⟩
    · exact Or.inr ⟨p, n, B, gg, z1, cPr_k z2 (fun f _ _ => by rw [i0]) (fun j => by rw [nI_ 2 j (by omega) (by omega) (by omega)]) (fun f => by rw [nI_ 4 0 (by omega) (by omega) (by omega)]) (fun j _ => nI_ 13 j (by omega) (by omega) (by omega)) (fun j hj => nI_ 15 j (by omega) (by omega) (by omega)) (fun j _ => by rw [n4]), rPr_k z3 (fun f hf => g1 f) (fun j _ => s3 13 j (by omega) (by omega)) (fun j hj => s3 15 j (by omega) (by omega)) (fun j _ => s4 16 j (by omega)), fun z => ⟨(z4 z).1, by rw [i0]; exact (z4 z).2⟩⟩
theorem J_put (h : Iv M R) : (∃ M1 R2 rb, 0 < mZ M1 16 5 ∧ f_Law_put M 0 x 5 = some (M1, 0) ∧ f_M_put R 0 x = some (R2, rb) ∧ f_M_thrown R2 0 = some (R2, 0) ∧ mL M1 16 5 0 = rb.toInt64 ∧ Iv M1 R2) ∨ (∃ M1 R2 rb, fT1_G_put M 0 x = some M1 ∧ f_M_put R 0 x = some (R2, rb) ∧ f_M_thrown R2 0 = some (R2, 1) ∧ Iv M1 R2) := by
  have ht := Iv_tape (Iv_thr (x := 1) h)
  obtain ⟨nm, g, tn, jt, tb, kb, vb, en, jk, jv, jh, W, hc, hr, hb, hp⟩ := Iv_thr (x := 0) h
  have z16 : mZ M 16 5 = 1 := hc.2.2.2.2.1.2.2
  have r2 : mR M 0 0 2 = some 0 := hc.2.2.2.2.1.1.2.1
  have r0 : mR M 0 0 0 = some jt := hc.2.2.2.2.1.1.1
  have t1 : mI M 0 0 1 = nI tn := hc.2.2.2.2.2.1.2
  have t2 : mI R 1 0 2 = nI tn := by have := hr.2.2.2.1.2; rw [pI_place (by decide)] at this; exact this
  have t3 : mI M 0 0 3 = nI nm := hc.2.2.2.2.2.1.1
  have t4 : mI R 1 0 3 = nI nm := by have := hr.2.2.2.1.1; rw [pI_place (by decide)] at this; exact this
  have n4 : nm ≤ 4 := hb.1.2.2.1.1
  have tz : mZ M 14 jt = tl g := hc.2.2.2.2.2.2.1.2.1
  have tg : g ≤ 6 := hc.2.2.2.2.2.2.1.1
  have tt : tn ≤ tl g := hc.2.2.2.2.2.2.1.2.2.1
  have tl6 : tl g ≤ 65536 := by
    have : ∀ q, q < 7 → tl q ≤ 65536 := by decide
    exact this g (by omega)
  have hps : ps_M R := by
    have := hr.1
    exact ps_M_of (M := wI R 1 0 0 0) rfl rfl this
  have no : f_M_put_b56 0 x R = some (wI (wI R 1 0 0 1) 1 0 2 0, 0) := by
    unfold f_M_put_b56 f_M_put_b57
    rw [if_pos rfl, st_eq, st_eq, if_pos rfl]
  have bad : fT1_G_put M 0 x = some (wI M 0 0 1 0) → f_M_put R 0 x = f_M_put_b56 0 x R → (∃ M1 R2 rb, fT1_G_put M 0 x = some M1 ∧ f_M_put R 0 x = some (R2, rb) ∧ f_M_thrown R2 0 = some (R2, 1) ∧ Iv M1 R2) := fun u v => ⟨_, _, _, u, v.trans no, by unfold f_M_thrown; rw [pI_place (by decide), pI_same], ht⟩
  have p3 : mI (wI M 0 0 1 0) 0 0 3 = nI nm := by rw [pI_place (by decide)]; exact t3
  by_cases c1 : x < 0
  · refine Or.inr (bad ?_ ?_)
    · unfold fT1_G_put; rw [st_eq, st_eq, if_pos c1]
    · unfold f_M_put f_M_isMap; rw [if_pos c1, b2_some, if_pos rfl]
  by_cases c2 : nI nm ≤ x
  · refine Or.inr (bad ?_ ?_)
    · unfold fT1_G_put; rw [st_eq, st_eq, if_neg c1, p3, if_pos c2]
    · unfold f_M_put f_M_isMap; rw [if_neg c1, t4, if_pos c2, b2_some, if_pos rfl]
  obtain ⟨m, hm, em⟩ := of_rng c1 c2 (by omega)
  have im := rismap t4 hm n4
  obtain ⟨⟨_, _, ⟨s1, s2, s3⟩, _⟩, hs⟩ := hc.2.1.1
  have sh := hs m hm
  obtain ⟨⟨k1, k2, k3⟩, ⟨k4, k5, k6⟩, ⟨k7, k8, k9⟩, k10, ⟨k11, k12, k13⟩, k14⟩ := sh
  have e13 : ∀ j, mI (wI R 1 0 0 0) 13 j = mI R 13 j := fun j => wI_o (fun z => absurd z.1 (by decide))
  have rk : mI R 13 1 m = nI (kn kb m) := by rw [← e13]; exact (hr.2.2.1.1.2.2.2 m hm).1
  have rv : mI R 13 2 m = nI (kn vb m) := by rw [← e13]; exact (hr.2.2.1.1.2.2.2 m hm).2.1
  have p12 : mI (wI M 0 0 1 0) 12 m = mI M 12 m := wI_o (fun z => absurd z.1 (by decide))
  have rpre : f_M_put R 0 x = (if nI tn < nI (kn kb m) + nI (kn vb m) then f_M_put_b56 0 x R else f_M_put_b57 0 x R 1) := by
    rw [em]
    unfold f_M_put
    rw [im, b2_some, if_neg (by decide), rs_6 hps, bd_some, im, b2_some, if_neg (by decide)]
    unfold f_M_put_b29
    rw [rz_13_1 hps, nI_tn (by omega), gd_pos (ix_t (by omega) (by decide)), rs_7 hps, bd_some, im, b2_some, if_neg (by decide)]
    unfold f_M_put_b47
    rw [rz_13_2 hps, nI_tn (by omega), gd_pos (ix_t (by omega) (by decide)), rk, rv, t2]
  by_cases c3 : nI tn < nI (kn kb m) + nI (kn vb m)
  · refine Or.inr (bad ?_ ?_)
    · unfold fT1_G_put
      rw [st_eq, st_eq, if_neg c1, p3, if_neg c2, r2, bd_some, em, s2, nI_tn (by omega), gd_pos (ix_t (by omega) (by decide)), (s3 m hm).1, bd_some, p12, k1, k2, t1, if_neg (by rw [i32_lt] at c3; rw [i32_le]; omega)]
    · rw [rpre, if_pos c3]
  refine Or.inl ?_
  have l3 : kn kb m + kn vb m ≤ tn := by
    rw [nI_add] at c3
    exact Nat.le_of_not_lt (fun z => c3 ((nI_lti (by omega) (by omega)).mpr z))
  obtain ⟨hc2, hr2, hb2, hp2⟩ := tape_c hc hr hb hp
  have tape := hb.2.1
  obtain ⟨T, eT⟩ : ∃ T, T = mI R 14 0 := ⟨_, rfl⟩
  have e14 : ∀ j, mI (wI (wI R 1 0 0 0) 1 0 2 0) 14 j = mI R 14 j := fun j => by rw [wI_o (fun z => absurd z.1 (by decide)), wI_o (fun z => absurd z.1 (by decide))]
  have tape : ∀ b, b < tn → mI M 14 jt b = T b ∧ isB (T b) := fun b hb => by
    have := tape b hb
    rw [wI_j (fun z => absurd z.1 (by decide))] at this
    rw [eT]
    exact ⟨this.1, by rw [← this.1]; exact this.2⟩
  obtain ⟨M2, eM2⟩ : ∃ M2, M2 = wI M 0 0 1 0 := ⟨_, rfl⟩
  obtain ⟨R3, eR3⟩ : ∃ R3, R3 = wI (wI R 1 0 0 0) 1 0 2 0 := ⟨_, rfl⟩
  rw [← eM2] at hc2 hb2 hp2
  rw [← eR3] at hr2 hb2 hp2 e14
  have m14 : mI M2 14 jt = mI M 14 jt := by rw [eM2]; exact wI_o (fun z => absurd z.1 (by decide))
  have mz : mZ M2 = mZ M := by rw [eM2]; rfl
  have q13 : ∀ j, mI R3 13 j = mI R 13 j := fun j => by rw [eR3, wI_o (fun z => absurd z.1 (by decide)), wI_o (fun z => absurd z.1 (by decide))]
  obtain ⟨val, eval⟩ : ∃ val : Nat → Int32, val = fun b => if b < kn vb m then T (kn kb m + b) else 0 := ⟨_, rfl⟩
  have vIn : ∀ b, b < kn vb m → val b = T (kn kb m + b) := fun b hb => by rw [eval]; exact if_pos hb
  have vB : ∀ b, isB (val b) := fun b => by
    by_cases l : b < kn vb m
    · rw [vIn b l]; exact (tape _ (by omega)).2
    · rw [show val b = 0 by rw [eval]; exact if_neg l]; rfl
  obtain ⟨N, a1, a2, a3, a4, a5, a6, a7⟩ := kupd0 (m := m) (j1 := jt) (j3 := jt) (A := 0) (B := kn kb m) (key := T) (val := val) hc2.2.1.1 hc2.2.1.2.2.1 hc2.2.2.1 hm (by rw [mz, tz]; omega) (by rw [mz, tz]; omega) (by rw [mz, tz]; omega) (by rw [mz, tz]; omega) (hc2.2.2.2.2.2.2.1.2.2.2.2.2 m hm).1 (fun b hb => by rw [m14, (tape _ (by omega)).1, Nat.zero_add]) (fun b hb => by rw [m14, (tape _ (by omega)).1, vIn b hb])
  obtain ⟨S1, o1, o2, o3⟩ := rput_k (R := R3) (T := T) (K := kn kb m) (m := m) (nm := nm) (mkb := 0) (by rw [q13]; exact rk) k11 (by omega) hr2.1 (fun a => by rw [e14, eT]) (fun a ha => (tape a (by omega)).2) (kn kb m) 0 fuel R3 (by omega) (by unfold fuel; omega) gf_refl (fun c hc => by omega)
  have f1 : ∀ k j, ¬ (k = 14 ∧ j = 6) → mI S1 k j = mI R3 k j := fun k j z => funext (fun f => o2.2.2.2.1 k j f z)
  obtain ⟨S2, v1, v2, v3⟩ := rput_v (R := S1) (T := T) (K := kn kb m) (V := kn vb m) (m := m) (by rw [f1 13 1 (by omega), q13]; exact rk) (by rw [f1 13 2 (by omega), q13]; exact rv) k11 k12 (by omega) (gf_ps o2 hr2.1) (fun a => by rw [f1 14 0 (by omega), e14, eT]) (fun a ha => (tape _ (by omega)).2) (kn vb m) 0 fuel S1 (by omega) (by unfold fuel; omega) gf_refl (fun c hc => by omega)
  have f2 : ∀ k j, ¬ (k = 14 ∧ (j = 6 ∨ j = 7)) → mI S2 k j = mI R3 k j := fun k j z => by
    rw [← f1 k j (by omega)]
    exact funext (fun f => v2.2.2.2.1 k j f (by omega))
  have ps2 : ps_M S2 := gf_ps v2 (gf_ps o2 hr2.1)
  have l2 : mL S2 = mL R3 := by
    funext k j f
    rw [v2.2.2.2.2 k j f (fun z => z), o2.2.2.2.2 k j f (fun z => z)]
  have key6 : ∀ b, b < kn kb m → mI S2 14 6 b = T b := fun b hb => by
    rw [v2.2.2.2.1 14 6 b (by omega)]
    exact o3 b hb
  have rms : rMs nm tb kb vb en W S2 := by
    unfold rMs
    rw [f2 15 0 (by omega), f2 14 1 (by omega), f2 14 2 (by omega)]
    exact hr2.2.2.1.2.2.1
  obtain ⟨S, w1, w2, w3, w4, w5⟩ := rupd (key := T) (val := val) (rSh_ps hr2.2.2.1.1 ps2 (fun j hj => f2 13 j (by omega))) rms hb2.1.2.1 hm (fun b hb => (key6 b hb).symm) (fun b hb => by rw [v3 b hb, vIn b hb]) (fun b hb => by rw [key6 b hb]; exact (tape b (by omega)).2) (fun b hb => by rw [v3 b hb]; exact (tape _ (by omega)).2)
  have iv : Iv N S := by
    refine Iv_m hc2 hr2 hb2 hp2 upd_w a2 a3 a4 a5 a6 a7 (by rw [w3.1, v2.1, o2.1]) (by rw [w3.2.2.1, v2.2.2.1, o2.2.2.1]) (fun k j z1 z2 => ?_) (fun k j hk => ?_) w2 (fun x hx => ?_) (fun x hx => by rw [w5 x hx, f2 14 2 (by omega)]) (uBy_upd hb2.1.1 vB) (uD_upd hb2.1.2.1)
    · rw [w3.2.2.2.1 k j (by omega), f2 k j (by omega)]
    · rw [w3.2.2.2.2 k j (by omega), l2]
    · rw [w4 x hx, f2 15 0 (by omega)]
  have s00 : mI S 1 0 0 = 0 := by
    rw [w3.2.2.2.1 1 0 (by omega), f2 1 0 (by omega), eR3, pI_place (by decide), pI_same]
  have zN : mZ N 16 5 = 1 := by rw [a3.2.1, mz]; exact z16
  refine ⟨wL N 16 5 0 (u_upd tb kb vb en W m T val).1.toInt64, S, (u_upd tb kb vb en W m T val).1, by show 0 < mZ N 16 5; rw [zN]; decide, ?_, ?_, by unfold f_M_thrown; rw [s00], pL_same, Iv_out iv⟩
  · unfold f_Law_put f_G_put
    rw [st_eq, st_eq, if_neg c1, p3, if_neg c2, r2, bd_some, em, s2, nI_tn (by omega), gd_pos (ix_t (by omega) (by decide)), (s3 m hm).1, bd_some, p12, k1, k2, t1, if_pos (by rw [i32_lt] at c3; rw [i32_le]; omega), r0, bd_some, ← eM2, show f_Store_update M2 m jt 0 jt (nI (kn kb m)) = _ from a1, b2_some, b2_some, z16, gd_pos (by decide), st_eq]
  · rw [rpre, if_neg c3]
    unfold f_M_put_b57
    rw [if_neg (by decide), st_eq, st_eq, if_neg (by decide), ← eR3, em, show f_M_put_l84 0 (nI m) fuel R3 0 = _ from o1, show f_M_put_l114 0 (nI m) fuel S1 0 = _ from v1, w1, b2_some]
end JPU
