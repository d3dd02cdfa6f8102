/-! PURE: the class's Machine against the typed machine: stores. -/
section HCT
variable {nm : Nat} {tb : Nat → Prop} {kb vb : Int32 → Int32} {en jk jv jh : Nat → Nat} {T U : tyT} {M N O : me_M} {c v pl : Int64} {jp i n : Nat} {t x : tyV}
theorem fnum (hk : lk M jp c) : f_Code_fieldNumber M jp = some (M, d_fn c) := by
  obtain ⟨q5, q6, q7, q8, q9, q10, q11, q12, q13, q14, q15⟩ := hk
  unfold f_Code_fieldNumber d_fn
  rw [q12, q9]
  by_cases a : d_opn c = 14
  · rw [if_pos a, if_pos (Or.inl a)]
  · by_cases b : d_opn c = 13
    · rw [if_neg a, if_pos b, if_pos (Or.inr b)]
    · rw [if_neg a, if_neg b, if_neg (fun z => z.elim a b)]
theorem koper (hR : cRl nm tb kb vb en jk jv jh T M) (hp : mR M 5 0 16 = some jp) (hk : lk M jp c) (hf : d_fi c < 11) (h0 : ¬ (ty_op c T).1 = 0) : f_Machine_operand M 0 = some (M, rc_ (ty_op c T)) := by
  have hfn := fnum hk
  obtain ⟨⟨⟨⟨r0, r1, r2, r3, r4, r5, r6, r7, r9⟩, ⟨z1, z2, z3, z4, z5⟩, _, hv⟩, _⟩, hmo, _⟩ := hR
  obtain ⟨q5, q6, q7, q8, q9, q10, q11, q12, q13, q14, q15⟩ := hk
  obtain ⟨kf, kf1, kf2, kf3⟩ := d_fi_n hf
  unfold f_Machine_operand
  rw [hp, bd_some, q15]
  unfold ty_op at h0 ⊢
  by_cases a : d_rf c = 0
  · rw [if_pos a, if_pos a, hfn, b2_some, rc_1 _ rfl]
  · rw [if_neg a] at h0
    rw [if_neg a, if_neg a, r6, bd_some, q7, kf2, nI_tn (by omega), z4, gd_pos (show ¬ (nI kf < 0 ∨ 16 ≤ kf) from fun z => z.elim (nI_ps (by omega)) (fun q => by omega)), kf3, ← hmo.1 kf (by omega) (by rw [← kf3]; exact h0)]
theorem wrb_in {f : Nat → Int32} {A : Nat} {y : Nat} (h : A ≤ y ∧ y < A + n) : wrb f A n v y = yb v (y - A) := if_pos h
theorem wrb_out {f : Nat → Int32} {A : Nat} {y : Nat} (h : ¬ (A ≤ y ∧ y < A + n)) : wrb f A n v y = f y := if_neg h
theorem row_ap {i j b d k P : Nat} (hb : b < k) (hP : P + d ≤ k) (hne : ¬ j = i) : ¬ (i * k + P ≤ j * k + b ∧ j * k + b < i * k + P + d) := by
  rintro ⟨h1, h2⟩
  rcases Nat.lt_or_gt_of_ne hne with g | g
  · have := Nat.mul_le_mul_right k (show j + 1 ≤ i from g)
    rw [Nat.add_mul, Nat.one_mul] at this
    omega
  · have := Nat.mul_le_mul_right k (show i + 1 ≤ j from g)
    rw [Nat.add_mul, Nat.one_mul] at this
    omega
theorem kput (hR : cRl nm tb kb vb en jk jv jh T M) (hI : tyI nm en T) (hm : mpz nm kb vb en) (hd : jDis nm jk jv jh) (hp : mR M 5 0 16 = some jp) (hk : lk M jp c) (f2 : ¬ d_fam c = 2) (ht : d_ti c < 11) (hf : d_fi c < 11) (hx0 : ¬ (ty_op c T).1 = 0) (ht0 : ¬ (tyC T (d_ti c)).1 = 0) (ho : ty_put c vb T = some U) : ∃ N, f_Machine_memory M 0 = some (N, 1) ∧ cRl nm tb kb vb en jk jv jh U N ∧ sgp nm jk jv jh M N ∧ tyI nm en U := by
  have hR2 := hR
  obtain ⟨hS, hmo, hst, hc1, hc2⟩ := hR2
  have hS2 := hS
  obtain ⟨⟨⟨r0, r1, r2, r3, r4, r5, r6, r7, r9⟩, ⟨z1, z2, z3, z4, z5⟩, _, hv⟩, _⟩ := hS2
  have hk2 := hk
  obtain ⟨q5, q6, q7, q8, q9, q10, q11, q12, q13, q14, q15⟩ := hk2
  obtain ⟨t, et⟩ : ∃ t, t = tyC T (d_ti c) := ⟨_, rfl⟩
  obtain ⟨x, ex⟩ : ∃ x, x = ty_op c T := ⟨_, rfl⟩
  obtain ⟨pl, epl⟩ : ∃ pl, pl = ty_pl c t := ⟨_, rfl⟩
  obtain ⟨l1, l0, l2, l3, l4, l5, l6, l7⟩ := put_rd rc_1 hmo hst hI ho et epl ex (by rw [ex]; exact hx0)
  obtain ⟨kt, kt1, kt2, kt3⟩ := d_ti_n ht
  have nnb := nn_by c
  have hby : d_by c = nI (d_nn c) := Int32.toInt_inj.mp (by rw [nI_int (by omega)]; exact nnb.1)
  have hreg : mL M 16 3 kt = rc_ t := by
    rw [et, ← kt3]
    exact hmo.1 _ ht ht0
  have h7 : t.1 = 7 → t.2.2.1 < nm ∧ t.2.2.2 < en t.2.2.1 := by rw [et]; exact hI _
  have hloc := cloc (M := M) (T := T) (t := t) (L := pl) (n := d_nn c) (a := rc_ t + (d_off c).toInt64) hS.1 hmo.2.2.2.1.1 hmo.2.2.2.1.2 hm (by omega) l1 h7 l2 (by rw [rc_add l1, epl])
  obtain ⟨sz1, sz2⟩ := ar_sz hS hm hmo.2.2.2.1.2 l1 h7 l2
  obtain ⟨N0, eN0⟩ : ∃ N0, N0 = wI (wR M 5 0 18 (some (ya jv t))) 5 0 19 (nI (yA0 vb t pl)) := ⟨_, rfl⟩
  rw [← eN0] at hloc
  have hR0 : cRl nm tb kb vb en jk jv jh T N0 := by rw [eN0]; exact cRl_loc hR
  have hs0 : sgp nm jk jv jh M N0 := by rw [eN0]; exact sgp_trans sgp_18 (sgp_5 (Or.inr rfl))
  have e18 : mR N0 5 0 18 = some (ya jv t) := by rw [eN0]; rfl
  have e19 : mI N0 5 0 19 = nI (yA0 vb t pl) := by rw [eN0, pI_same]
  have eR : ∀ f, ¬ f = 18 → mR N0 5 0 f = mR M 5 0 f := fun f hf => hs0.2.2.1 5 0 f (fun z => hf z.2.2)
  have e2 : mI N0 2 jp = mI M 2 jp := hs0.2.2.2.1 2 jp (fun z => absurd z.1 (by decide)) (fun z => absurd z.1 (by decide)) (fun z => absurd z.1 (by decide))
  have eZ : mZ N0 = mZ M := hs0.2.1
  have e14 : ∀ j, mI N0 14 j = mI M 14 j := fun j => by rw [eN0]; exact wI_o (fun z => absurd z.1 (by decide))
  have e15 : ∀ j, mI N0 15 j = mI M 15 j := fun j => by rw [eN0]; exact wI_o (fun z => absurd z.1 (by decide))
  have eL : mL N0 = mL M := by rw [eN0]; rfl
  have e58 : mI N0 5 0 8 = mI M 5 0 8 := hs0.2.2.2.2.1 8 (by decide) (by decide)
  have e510 : mI N0 5 0 10 = mI M 5 0 10 := by rw [eN0, pI_place (by decide)]; rfl
  have hkN : lk N0 jp c := by unfold lk; rw [e2]; exact hk
  have hpN : mR N0 5 0 16 = some jp := by rw [eR 16 (by decide)]; exact hp
  have hop := koper hR0 hpN hkN hf hx0
  rw [← ex] at hop
  have hrd := crd (M := N0) (n := d_nn c) e18 e19 (by rw [eZ]; exact sz2) (by rw [eZ]; exact sz1) nnb.2.2
  rw [e14] at hrd
  obtain ⟨ja, eja⟩ : ∃ ja, ja = ya jv t := ⟨_, rfl⟩
  obtain ⟨A, eA⟩ : ∃ A, A = yA0 vb t pl := ⟨_, rfl⟩
  rw [← eja] at hrd e18 sz1 sz2
  rw [← eA] at hrd e19 sz1
  obtain ⟨w, ew⟩ : ∃ w, w = (if d_fam c = 5 then yn (mI M 14 ja) A (d_nn c) 0 else 0) + rc_ x := ⟨_, rfl⟩
  obtain ⟨N1, n1, n2, n3⟩ := cwr (M := N0) (n := d_nn c) (v := w) e18 e19 (by rw [eZ]; exact sz2) (by rw [eZ]; exact sz1) nnb.2.2
  rw [e14] at n3
  have hrun : f_Machine_memory M 0 = some (N1, 1) := by
    unfold f_Machine_memory
    rw [hp, bd_some, q10, if_neg f2]
    unfold f_Machine_memory_b16
    rw [r6, bd_some, if_pos rfl, hp, bd_some, q6, kt2]
    unfold f_Machine_memory_b42
    rw [nI_tn (by omega), z4, gd_pos (show ¬ (nI kt < 0 ∨ 16 ≤ kt) from fun z => z.elim (nI_ps (by omega)) (fun q => by omega)), hp, bd_some, hreg, q8, st_eq, q11, hby, hloc, b2_some, if_neg (by decide), if_pos rfl, hpN, bd_some, e2, q10]
    by_cases f5 : d_fam c = 5
    · rw [if_pos f5, q11, hby, hrd, b2_some]
      unfold f_Machine_memory_b126
      rw [if_pos f5] at ew
      rw [hpN, bd_some, hop, b2_some, e2, q11, hby, ← ew, n1, bd_some]
    · rw [if_neg f5]
      unfold f_Machine_memory_b126
      rw [if_neg f5] at ew
      rw [hpN, bd_some, hop, b2_some, e2, q11, hby, ← ew, n1, bd_some]
  have n14 : ∀ j, ¬ j = ja → mI N1 14 j = mI M 14 j := fun j hj => by rw [n2.2.2.2.1 14 j (fun z => hj z.2), e14]
  have n15 : ∀ j, mI N1 15 j = mI M 15 j := fun j => by rw [n2.2.2.2.1 15 j (fun z => absurd z.1 (by decide)), e15]
  have nL : ∀ k j, ¬ k = 14 → mL N1 k j = mL M k j := fun k j hk => by rw [n2.2.2.2.2 k j (fun z => hk z.1), eL]
  have n5 : mI N1 5 0 = mI N0 5 0 := n2.2.2.2.1 5 0 (fun z => absurd z.1 (by decide))
  have nja : mI N1 14 ja = wrb (mI M 14 ja) A (d_nn c) w := funext n3
  have hsz : ja = 2 ∨ ja = 3 ∨ ∃ m, m < nm ∧ (ja = jk m ∨ ja = jv m) := by
    rw [eja]
    unfold ya
    rw [if_neg l0]
    rcases l1 with k | k | k | k
    · exact absurd k l0
    · rw [if_pos k]; exact Or.inl rfl
    · rw [if_neg (by rw [k]; decide), if_pos k]; exact Or.inr (Or.inl rfl)
    · rw [if_neg (by rw [k]; decide), if_neg (by rw [k]; decide)]
      exact Or.inr (Or.inr ⟨_, (h7 k).1, Or.inr rfl⟩)
  have hsg : sgp nm jk jv jh M N1 := sgp_trans hs0 (sgp_fr n2 hsz)
  refine ⟨N1, hrun, ⟨cSh_of hsg hS, ?_⟩, hsg, l4⟩
  rw [nL 16 3 (by decide), nL 16 4 (by decide), nL 5 0 (by decide), n5, e58, e510]
  rcases l1 with k | k | k | k
  · exact absurd k l0
  · have ej : ja = 2 := by rw [eja]; unfold ya; rw [if_neg l0, if_pos k]
    have ea : A = (pl + 512).toNatClampNeg := by
      rw [eA]
      unfold yA0 ty_ad
      rw [if_neg (by rw [k]; decide), if_pos k]
    obtain ⟨g1, g2, g3, g4, _⟩ := l5 k
    rw [ej] at nja ew
    rw [ea] at ew nja
    rw [← ew] at g3
    rw [nja, n14 3 (by rw [ej]; decide), n14 1 (by rw [ej]; decide), g4]
    refine ⟨g3, mst_e hst (fun m _ i _ => by rw [n15]) (fun m hm _ _ _ _ => by rw [n14 _ (by have := (hd.1 m hm).1; omega)]) (fun m hm _ _ _ _ => by rw [n14 _ (by have := (hd.1 m hm).2.1; omega)]), hc1, hc2⟩
  · have ej : ja = 3 := by rw [eja]; unfold ya; rw [if_neg l0, if_neg (by rw [k]; decide), if_pos k]
    have ea : A = pl.toNatClampNeg := by
      rw [eA]
      unfold yA0 ty_ad
      rw [if_neg (by rw [k]; decide), if_neg (by rw [k]; decide)]
    obtain ⟨g1, g2, g3, g4, _⟩ := l6 k
    rw [if_neg g1, Int64.zero_add] at ew
    rw [ej, ea] at nja
    rw [← ew] at g2
    have gz : uZ (tyW U) = uZ (tyW T) := by
      have a1 := g2.2.2.2.1
      have a2 := hmo.2.2.2.1
      exact nI_inj (by omega) (by omega) (a1.1.symm.trans a2.1)
    rw [nja, n14 2 (by rw [ej]; decide), n14 1 (by rw [ej]; decide), g4, gz]
    refine ⟨g2, mst_e g3 (fun m _ i _ => by rw [n15]) (fun m hm _ _ _ _ => by rw [n14 _ (by have := (hd.1 m hm).1; omega)]) (fun m hm _ _ _ _ => by rw [n14 _ (by have := (hd.1 m hm).2.1; omega)]), hc1, hc2⟩
  · obtain ⟨m1, m2, g1, g2, g3, _⟩ := l7 k
    have ej : ja = jv t.2.2.1 := by rw [eja]; unfold ya; rw [if_neg l0, if_neg (by rw [k]; decide), if_neg (by rw [k]; decide)]
    have ea : A = t.2.2.2 * kn vb t.2.2.1 + pl.toNatClampNeg := by
      rw [eA]
      unfold yA0
      rw [if_pos k]
    have j3 := (hd.1 _ m1).2.1
    unfold ty_in at l2
    rw [if_neg l0, if_neg (by rw [k]; decide), if_neg (by rw [k]; decide)] at l2
    have tp := tn_pos l2.2.1
    have kp := (kn_pos hm m1).2
    have gz : uZ (tyW U) = uZ (tyW T) := by
      have a1 := g1.2.2.2.1
      have a2 := hmo.2.2.2.1
      exact nI_inj (by omega) (by omega) (a1.1.symm.trans a2.1)
    have hP : pl.toNatClampNeg + d_nn c ≤ kn vb t.2.2.1 := by omega
    rw [ej] at nja
    have ew2 : w = (if d_fam c = 5 then yn (fun b => mI M 14 (jv t.2.2.1) (t.2.2.2 * kn vb t.2.2.1 + b)) pl.toNatClampNeg (d_nn c) 0 else 0) + rc_ x := by
      rw [ew, ej, ea]
      by_cases f5 : d_fam c = 5
      · rw [if_pos f5, if_pos f5]
        rw [yn_c (f := mI M 14 (jv t.2.2.1)) (g := fun b => mI M 14 (jv t.2.2.1) (t.2.2.2 * kn vb t.2.2.1 + b)) (a := t.2.2.2 * kn vb t.2.2.1 + pl.toNatClampNeg) (b := pl.toNatClampNeg) _ _ (fun i _ => by rw [Nat.add_assoc])]
      · rw [if_neg f5, if_neg f5]
    rw [← ew2] at g2
    rw [n14 2 (by omega), n14 3 (by omega), n14 1 (by omega), g3, gz]
    refine ⟨g1, mst_e g2 (fun m _ i _ => by rw [n15]) (fun m hm _ _ _ _ => by rw [n14 _ (by rw [ej]; exact hd.2.1 m _ hm m1)]) (fun m hm i hi b hb => ?_), hc1, hc2⟩
    unfold fup
    by_cases em : m = t.2.2.1
    · rw [if_pos em, em, nja, ea]
      rw [em] at hb
      by_cases ei : i = t.2.2.2
      · rw [if_pos ei, ei]
        unfold wrb
        by_cases er : pl.toNatClampNeg ≤ b ∧ b < pl.toNatClampNeg + d_nn c
        · rw [if_pos (by omega), if_pos er, show t.2.2.2 * kn vb t.2.2.1 + b - (t.2.2.2 * kn vb t.2.2.1 + pl.toNatClampNeg) = b - pl.toNatClampNeg by omega]
        · rw [if_neg (by omega), if_neg er]
      · rw [if_neg ei, wrb_out (row_ap hb hP ei)]
    · rw [if_neg em, n14 _ (by rw [ej]; exact (hd.2.2 m _ hm m1 em).2.1)]
end HCT
