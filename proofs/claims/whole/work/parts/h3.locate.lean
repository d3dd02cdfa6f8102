/-! PURE: the class's Machine: what it holds; where an address leads. -/
/-- the Machine's shape -/
def cMs (nm : Nat) (kb vb : Int32 → Int32) (en jv : Nat → Nat) (M : me_M) : Prop := (mR M 5 0 0 = some 0 ∧ mR M 5 0 1 = some 1 ∧ mR M 5 0 2 = some 0 ∧ mR M 5 0 3 = some 0 ∧ mR M 5 0 4 = some 1 ∧ mR M 5 0 5 = some 2 ∧ mR M 5 0 6 = some 3 ∧ mR M 5 0 7 = some 3 ∧ mR M 5 0 9 = some 4) ∧ (mZ M 14 1 = 64 ∧ mZ M 14 2 = 512 ∧ mZ M 14 3 = 2000 ∧ mZ M 16 3 = 16 ∧ mZ M 16 4 = 1000) ∧ sto M nm kb vb ∧ (∀ m, m < nm → mR M 12 m 5 = some (jv m) ∧ mI M 12 m 3 = nI (en m) ∧ mZ M 14 (jv m) = en m * (vb (nI m)).toNatClampNeg)
section LOC
variable {nm : Nat} {kb vb : Int32 → Int32} {en jv : Nat → Nat} {M : me_M} {T : tyT} {t : tyV} {L : Int64} {n : Nat}
theorem int_of_nat {v : Int64} {k : Nat} (h : v.toInt = (k : Int)) : v.toNatClampNeg = k := by
  show v.toInt.toNat = k
  rw [h]
  exact Int.toNat_natCast _
theorem area_of {a : Int64} {A : Nat} (hA : A < 100) (h1 : (A : Int) * 1099511627776 - 549755813888 ≤ a.toInt) (h2 : a.toInt < (A : Int) * 1099511627776 + 549755813888) : f_G_areaOf a = some (nI A) := by
  unfold f_G_areaOf
  have e : (a + 549755813888).toInt = a.toInt + 549755813888 := by
    rw [l_add (by omega) (by omega) (by decide) (by decide)]
    rfl
  have e2 : (jlshr (a + 549755813888) 40).toInt = (A : Int) := by
    rw [show (40 : Int32) = nI 40 from rfl, int_shr (by decide), e]
    omega
  have e3 : (jlshr (a + 549755813888) 40).toInt32 = nI A := Int32.toInt_inj.mp (by rw [i64_of (by omega) (by omega), e2, nI_int (by omega)])
  rw [e3]
theorem base_of {A : Nat} (hA : A < 100) : ∃ b, f_G_baseOf (nI A) = some b ∧ b.toInt = (A : Int) * 1099511627776 := by
  have tab : ∀ A, A < 100 → (jlshl (nI A).toInt64 40).toInt = (A : Int) * 1099511627776 := by decide +kernel
  exact ⟨_, rfl, tab A hA⟩
theorem l_sub {a b : Int64} (h1 : -1000000000000000 ≤ a.toInt) (h2 : a.toInt ≤ 1000000000000000) (h3 : -1000000000000000 ≤ b.toInt) (h4 : b.toInt ≤ 1000000000000000) : (a - b).toInt = a.toInt - b.toInt := by
  rw [Int64.toInt_sub, Int.bmod_def]
  split <;> omega
/-- the area that a pointer is of, and where in it a place is -/
def ya (jv : Nat → Nat) (t : tyV) : Nat := if t.1 = 2 then 1 else if t.1 = 3 then 2 else if t.1 = 4 then 3 else jv t.2.2.1
def yA0 (vb : Int32 → Int32) (t : tyV) (L : Int64) : Nat := if t.1 = 7 then t.2.2.2 * (vb (nI t.2.2.1)).toNatClampNeg + L.toNatClampNeg else ty_ad t L
theorem b117 {f z : Int64} {A : Nat} {N : me_M} (hf1 : 0 ≤ f.toInt) (hf2 : f.toInt ≤ 100000) (hL1 : -100000 ≤ L.toInt) (hL2 : L.toInt ≤ 100000) (hn : n ≤ 512) (hA : f.toInt + L.toInt = (A : Int)) (hz : f.toInt + L.toInt + (n : Int) ≤ z.toInt) : f_Machine_locate_b117 0 (nI n) N L f z = some (wI N 5 0 19 (nI A), 1) := by
  have e1 : (f + L).toInt = f.toInt + L.toInt := l_add (by omega) (by omega) (by omega) (by omega)
  have e2 : (f + L).toInt32 = nI A := Int32.toInt_inj.mp (by rw [i64_of (by omega) (by omega), e1, nI_int (by omega)]; omega)
  have en6 := nI_6 (k := n) (by omega)
  unfold f_Machine_locate_b117
  rw [st_eq, e2, if_neg (by rw [i64_lt, l_neg (by omega) (by omega)]; omega), if_neg (by rw [i64_lt, l_add (by omega) (by omega) (by omega) (by omega), e1, en6]; omega)]
theorem rc_int (hp : ty_ptr t) (hm : t.1 = 7 → t.2.2.1 < 4 ∧ t.2.2.2 < 64) (hL1 : -100000 ≤ L.toInt) (hL2 : L.toInt ≤ 100000) : (t.1 = 2 → (rc_ (t.1, L, t.2.2)).toInt = 1099511627776 + L.toInt) ∧ (t.1 = 3 → (rc_ (t.1, L, t.2.2)).toInt = 2199023255552 + L.toInt) ∧ (t.1 = 4 → (rc_ (t.1, L, t.2.2)).toInt = 3298534883328 + L.toInt) ∧ (t.1 = 7 → (rc_ (t.1, L, t.2.2)).toInt = (4 + (t.2.2.1 : Int)) * 1099511627776 + (t.2.2.2 : Int) * 1048576 + L.toInt) := by
  unfold rc_
  refine ⟨fun k => ?_, fun k => ?_, fun k => ?_, fun k => ?_⟩
  · rw [k, if_pos rfl, l_add (by decide) (by decide) (by show _ ≤ L.toInt; omega) (by show L.toInt ≤ _; omega)]
    rfl
  · rw [k, if_neg (by decide), if_pos rfl, l_add (by decide) (by decide) (by show _ ≤ L.toInt; omega) (by show L.toInt ≤ _; omega)]
    rfl
  · rw [k, if_neg (by decide), if_neg (by decide), if_pos (Or.inl rfl), l_add (by decide) (by decide) (by show _ ≤ L.toInt; omega) (by show L.toInt ≤ _; omega)]
    rfl
  · obtain ⟨m1, m2⟩ := hm k
    have tab1 : ∀ m, m < 4 → ((nI (4 + m)).toInt64 * 1099511627776).toInt = (4 + (m : Int)) * 1099511627776 := by decide +kernel
    have tab2 : ∀ i, i < 64 → ((nI i).toInt64 * 1048576).toInt = (i : Int) * 1048576 := by decide +kernel
    have t1 := tab1 _ m1
    have t2 := tab2 _ m2
    rw [k, if_neg (by decide), if_neg (by decide), if_neg (by decide), if_neg (by decide), if_pos rfl]
    show ((nI (4 + t.2.2.1)).toInt64 * 1099511627776 + (nI t.2.2.2).toInt64 * 1048576 + L).toInt = _
    have e1 : ((nI (4 + t.2.2.1)).toInt64 * 1099511627776 + (nI t.2.2.2).toInt64 * 1048576).toInt = (4 + (t.2.2.1 : Int)) * 1099511627776 + (t.2.2.2 : Int) * 1048576 := by
      rw [l_add (by omega) (by omega) (by omega) (by omega), t1, t2]
    rw [l_add (by omega) (by omega) (by omega) (by omega), e1]
theorem lv_a {R : Int64} {i : Nat} (hi : i < 64) (hR : R.toInt = (i : Int) * 1048576 + L.toInt) (h0 : 0 ≤ L.toInt) (h1 : L.toInt ≤ 64) : (jlshr (R + 524288) 20).toInt = (i : Int) := by
  have e1 : (R + 524288).toInt = R.toInt + 524288 := by
    rw [l_add (by omega) (by omega) (by decide) (by decide)]
    rfl
  rw [show (20 : Int32) = nI 20 from rfl, int_shr (by decide), e1, hR]
  have : (2 : Int) ^ 20 = 1048576 := by decide
  rw [this]
  omega
theorem lv_1 {R : Int64} {i : Nat} (hi : i < 64) (hR : R.toInt = (i : Int) * 1048576 + L.toInt) (h0 : 0 ≤ L.toInt) (h1 : L.toInt ≤ 64) : jlshr (R + 524288) 20 = (nI i).toInt64 := Int64.toInt_inj.mp (by rw [lv_a hi hR h0 h1, nI_6 (by omega)])
theorem lv_t : ∀ i, i < 64 → (jlshl (nI i).toInt64 20).toInt = (i : Int) * 1048576 := by decide +kernel
theorem lv_2 {R : Int64} {i : Nat} (hi : i < 64) (hR : R.toInt = (i : Int) * 1048576 + L.toInt) (h0 : 0 ≤ L.toInt) (h1 : L.toInt ≤ 64) : R - jlshl (nI i).toInt64 20 = L := by
  have t := lv_t i hi
  generalize jlshl (nI i).toInt64 20 = W at t ⊢
  exact Int64.toInt_inj.mp (by rw [l_sub (by omega) (by omega) (by omega) (by omega), hR, t]; omega)
theorem lv_m {i z : Nat} (hi : i < 64) (hz : z < 65) : ((nI i).toInt64 * (nI z).toInt64).toInt = (i : Int) * (z : Int) := by
  have b1 : (i : Int) * z ≤ 64 * 64 := Int.mul_le_mul (by omega) (by omega) (by omega) (by omega)
  have b0 : 0 ≤ (i : Int) * z := Int.mul_nonneg (by omega) (by omega)
  rw [Int64.toInt_mul, nI_6 (by omega), nI_6 (by omega)]
  generalize (i : Int) * z = w at b0 b1 ⊢
  rw [Int.bmod_def]
  split <;> omega
theorem lv_3 {i z : Nat} (hi : i < 64) (hz : z < 65) (h0 : 0 ≤ L.toInt) (h1 : L.toInt ≤ 64) : ((nI i).toInt64 * (nI z).toInt64 + L).toInt32 = nI (i * z + L.toNatClampNeg) := by
  have b1 : (i : Int) * z ≤ 64 * 64 := Int.mul_le_mul (by omega) (by omega) (by omega) (by omega)
  have b0 : 0 ≤ (i : Int) * z := Int.mul_nonneg (by omega) (by omega)
  have mm := lv_m hi hz
  have eL : (L.toNatClampNeg : Int) = L.toInt := by
    show ((L.toInt.toNat : Nat) : Int) = _
    omega
  have cs : ((i * z + L.toNatClampNeg : Nat) : Int) = (i : Int) * (z : Int) + L.toInt := by
    rw [Int.natCast_add, Int.natCast_mul, eL]
  generalize (nI i).toInt64 * (nI z).toInt64 = W at mm ⊢
  generalize i * z + L.toNatClampNeg = u at cs ⊢
  generalize (i : Int) * (z : Int) = p at b0 b1 mm cs
  have sm : (W + L).toInt = p + L.toInt := by rw [l_add (by omega) (by omega) (by omega) (by omega), mm]
  exact Int32.toInt_inj.mp (by rw [i64_of (by omega) (by omega), sm, nI_int (by omega), cs])
theorem nI_of0 {v : Int32} (h : 0 ≤ v.toInt) : v = nI v.toNatClampNeg := by
  have e : (v.toNatClampNeg : Int) = v.toInt := by
    show ((v.toInt.toNat : Nat) : Int) = _
    omega
  have := Int32.toInt_lt v
  exact Int32.toInt_inj.mp (by rw [nI_int (by omega), e])
theorem clv {R : Int64} {m i E j z : Nat} (hm : m < 4) (hi : i < E) (hE : E ≤ 64) (hz : z < 65) (hR : R.toInt = (i : Int) * 1048576 + L.toInt) (h0 : 0 ≤ L.toInt) (h1 : L.toInt + (n : Int) ≤ (z : Int)) (r2 : mR M 5 0 2 = some 0) (s2 : mZ M 19 0 = 4) (s4 : mR M 19 0 m = some m) (w1 : mR M 12 m 5 = some j) (s6 : mI M 12 m 2 = nI z) (w2 : mI M 12 m 3 = nI E) : f_Machine_locateValue M 0 (nI m) R (nI n) = some (wI (wR M 5 0 18 (some j)) 5 0 19 (nI (i * z + L.toNatClampNeg)), 1) := by
  unfold f_Machine_locateValue
  have q6 : ¬ 4 ≤ nI m := by
    have t : ∀ m, m < 4 → ¬ 4 ≤ nI m := by decide
    exact t m hm
  have i2 : mI (wR M 5 0 18 (some j)) 12 m 2 = nI z := s6
  have i3 : mI (wR M 5 0 18 (some j)) 12 m 3 = nI E := w2
  rw [if_neg q6, r2, bd_some, nI_tn (by omega), s2, gd_pos (show ¬ (nI m < 0 ∨ 4 ≤ m) from fun z => z.elim (nI_ps (by omega)) (fun q => by omega)), s4, oc_some, bd_some, st_eq, lv_1 (by omega) hR h0 (by omega), st_eq, lv_2 (by omega) hR h0 (by omega), w1, bd_some, st_eq, st_eq, i2, lv_3 (by omega) hz h0 (by omega), wI_j (fun z => absurd z.1 (by decide)), wI_j (fun z => absurd z.1 (by decide)), i2, i3]
  have a1 : ¬ (nI i).toInt64 < 0 := by
    rw [i64_lt, nI_6 (by omega)]
    show ¬ (i : Int) < 0
    omega
  have a2 : (nI i).toInt64 < (nI E).toInt64 := by
    rw [i64_lt, nI_6 (by omega), nI_6 (by omega)]
    omega
  have a3 : ¬ L < 0 := by
    rw [i64_lt]
    show ¬ L.toInt < 0
    omega
  have a4 : ¬ (nI z).toInt64 < L + (nI n).toInt64 := by
    have e6 := nI_6 (k := n) (by omega)
    rw [i64_lt, l_add (by omega) (by omega) (by omega) (by omega), e6, nI_6 (by omega)]
    omega
  rw [if_neg a1, if_pos a2, if_neg a3, if_neg a4]
theorem cloc (hM : cMs nm kb vb en jv M) (hZ : mI M 5 0 8 = nI (uZ (tyW T))) (hz2 : uZ (tyW T) ≤ 2000) (hm : mpz nm kb vb en) (hn : n ≤ 512) (hp : ty_ptr t) (h7 : t.1 = 7 → t.2.2.1 < nm ∧ t.2.2.2 < en t.2.2.1) (hi : ty_in vb T t L n) {a : Int64} (ha : a = rc_ (t.1, L, t.2.2)) : f_Machine_locate M 0 a (nI n) = some (wI (wR M 5 0 18 (some (ya jv t))) 5 0 19 (nI (yA0 vb t L)), 1) := by
  obtain ⟨⟨r0, r1, r2, r3, r4, r5, r6, r7, r9⟩, ⟨z1, z2, z3, z4, z5⟩, hs, hv⟩ := hM
  have en6 := nI_6 (k := n) (by omega)
  have bl : -100000 ≤ L.toInt ∧ L.toInt ≤ 100000 := by
    unfold ty_in at hi
    split at hi
    · omega
    split at hi
    · omega
    split at hi
    · omega
    · rename_i k2 k3 k4
      have := (hm.2 _ (h7 hi.1).1).2.1
      omega
  obtain ⟨c2, c3, c4, c7⟩ := rc_int (t := t) (L := L) hp (fun k => by have := h7 k; have := hm.1; have := (hm.2 _ (h7 k).1).2.2; omega) bl.1 bl.2
  rw [← ha] at c2 c3 c4 c7
  clear ha
  unfold f_Machine_locate
  have go : ∀ {A : Nat} (hA : A < 100) (h1 : a.toInt = (A : Int) * 1099511627776 + L.toInt), f_G_areaOf a = some (nI A) ∧ ∃ b, f_G_baseOf (nI A) = some b ∧ a - b = L := by
    intro A hA h1
    obtain ⟨b, b1, b2⟩ := base_of hA
    refine ⟨area_of hA (by omega) (by omega), b, b1, Int64.toInt_inj.mp ?_⟩
    rw [l_sub (by omega) (by omega) (by omega) (by omega)]
    omega
  rcases hp with k | k | k | k
  · unfold ty_in at hi
    rw [if_pos k] at hi
    obtain ⟨g1, b, g2, g3⟩ := go (A := 1) (by decide) (by rw [c2 k]; omega)
    rw [g1, bd_some, g2, bd_some, st_eq, g3, if_pos (show nI 1 = 1 from rfl), r4, bd_some, st_eq]
    have eA : (L.toNatClampNeg : Int) = L.toInt := by show ((L.toInt.toNat : Nat) : Int) = _; omega
    rw [b117 (A := L.toNatClampNeg) (by decide) (by decide) bl.1 bl.2 hn (by rw [eA, show (0 : Int64).toInt = 0 from rfl]; omega) (by rw [show (0 : Int64).toInt = 0 from rfl, show (64 : Int64).toInt = 64 from rfl]; omega)]
    unfold ya yA0 ty_ad
    rw [if_pos k, if_neg (by rw [k]; decide), if_neg (by rw [k]; decide)]
  · unfold ty_in at hi
    rw [if_neg (by rw [k]; decide), if_pos k] at hi
    obtain ⟨g1, b, g2, g3⟩ := go (A := 2) (by decide) (by rw [c3 k]; omega)
    rw [g1, bd_some, g2, bd_some, st_eq, g3, if_neg (show ¬ nI 2 = 1 by decide), if_pos (show nI 2 = 2 from rfl), r5, bd_some, st_eq]
    have e5 : (L + 512).toInt = L.toInt + 512 := by rw [l_add (by omega) (by omega) (by decide) (by decide)]; rfl
    have eA : ((L + 512).toNatClampNeg : Int) = L.toInt + 512 := by show (((L + 512).toInt.toNat : Nat) : Int) = _; omega
    rw [b117 (A := (L + 512).toNatClampNeg) (by decide) (by decide) bl.1 bl.2 hn (by rw [eA, show (512 : Int64).toInt = 512 from rfl]; omega) (by rw [show (512 : Int64).toInt = 512 from rfl]; omega)]
    unfold ya yA0 ty_ad
    rw [if_neg (by rw [k]; decide), if_pos k, if_neg (by rw [k]; decide), if_pos k]
  · unfold ty_in at hi
    rw [if_neg (by rw [k]; decide), if_neg (by rw [k]; decide), if_pos k] at hi
    obtain ⟨g1, b, g2, g3⟩ := go (A := 3) (by decide) (by rw [c4 k]; omega)
    rw [g1, bd_some, g2, bd_some, st_eq, g3, if_neg (show ¬ nI 3 = 1 by decide), if_neg (show ¬ nI 3 = 2 by decide), if_pos (show nI 3 = 3 from rfl), r7, bd_some, st_eq, st_eq]
    have eA : (L.toNatClampNeg : Int) = L.toInt := by show ((L.toInt.toNat : Nat) : Int) = _; omega
    have e8 : mI (wR M 5 0 18 (some 3)) 5 0 8 = nI (uZ (tyW T)) := hZ
    rw [e8, b117 (A := L.toNatClampNeg) (by decide) (by decide) bl.1 bl.2 hn (by rw [eA, show (0 : Int64).toInt = 0 from rfl]; omega) (by rw [nI_6 (by omega), show (0 : Int64).toInt = 0 from rfl]; omega)]
    unfold ya yA0 ty_ad
    rw [if_neg (by rw [k]; decide), if_neg (by rw [k]; decide), if_pos k, if_neg (by rw [k]; decide), if_neg (by rw [k]; decide)]
  · unfold ty_in at hi
    rw [if_neg (by rw [k]; decide), if_neg (by rw [k]; decide), if_neg (by rw [k]; decide)] at hi
    obtain ⟨m1, m2⟩ := h7 k
    have nm4 := hm.1
    obtain ⟨_, ⟨v1, v2⟩, e64⟩ := hm.2 _ m1
    obtain ⟨w1, w2, w3⟩ := hv _ m1
    obtain ⟨s1, s2, s3⟩ := hs
    obtain ⟨s4, s5, s6⟩ := s3 _ m1
    have eA : (4 + t.2.2.1 : Nat) < 100 := by omega
    obtain ⟨b, b1, b2⟩ := base_of eA
    have hc := c7 k
    have ab : (a - b).toInt = (t.2.2.2 : Int) * 1048576 + L.toInt := by
      clear go hi c2 c3 c4 c7 en6 w1 w2 w3 s3 s4 s5 s6
      rw [l_sub (by omega) (by omega) (by omega) (by omega)]
      omega
    have ar : f_G_areaOf a = some (nI (4 + t.2.2.1)) := area_of eA (by omega) (by omega)
    rw [ar, bd_some, b1, bd_some, st_eq]
    generalize a - b = R at ab ⊢
    have tab : ∀ m, m < 4 → ¬ nI (4 + m) = 1 ∧ ¬ nI (4 + m) = 2 ∧ ¬ nI (4 + m) = 3 ∧ ¬ nI (4 + m) < 4 ∧ nI (4 + m) - 4 = nI m := by decide
    obtain ⟨q1, q2, q3, q4, q5⟩ := tab t.2.2.1 (by omega)
    have ev := nI_of0 v1
    have ez : ((vb (nI t.2.2.1)).toNatClampNeg : Int) = (vb (nI t.2.2.1)).toInt := by
      show (((vb (nI t.2.2.1)).toInt.toNat : Nat) : Int) = _
      omega
    rw [if_neg q1, if_neg q2, if_neg q3, if_neg q4, q5, clv (z := (vb (nI t.2.2.1)).toNatClampNeg) (by omega) m2 e64 (by omega) ab hi.2.1 (by rw [ez]; exact hi.2.2) r2 s2 s4 w1 (s6.trans ev) w2, b2_some, if_neg (by decide)]
    unfold ya yA0
    rw [if_neg (by rw [k]; decide), if_neg (by rw [k]; decide), if_neg (by rw [k]; decide), if_pos k]
end LOC
