/-! PURE: the class's Machine against the typed machine: a call. -/
section HCQ
variable {nm : Nat} {tb : Nat → Prop} {kb vb : Int32 → Int32} {en jk jv jh : Nat → Nat} {T U : tyT} {W : tyU} {M N O : me_M} {c v w pl : Int64} {jp i n m : Nat} {t x : tyV}
theorem fnd_v : ∀ m, m < 4 → ∀ i, i < 64 → jlshl (4 + nI m).toInt64 40 + jlshl (nI i).toInt64 20 = rc_ (7, 0, m, i) ∧ ¬ (nI i).toInt64 = -1 := by decide +kernel
theorem ya_nk (hd : jDis nm jk jv jh) (hn : m < nm) (hp : ty_ptr t) (h2 : ¬ t.1 = 2) (h7 : t.1 = 7 → t.2.2.1 < nm ∧ t.2.2.2 < en t.2.2.1) : ¬ ya jv t = jk m := by
  have := (hd.1 m hn).1
  unfold ya
  rw [if_neg h2]
  rcases hp with k | k | k | k
  · exact absurd k h2
  · rw [if_pos k]; omega
  · rw [if_neg (by rw [k]; decide), if_pos k]; omega
  · rw [if_neg (by rw [k]; decide), if_neg (by rw [k]; decide)]
    exact fun z => hd.2.1 m _ hn (h7 k).1 z.symm
theorem can_2 (h : ty_can vb T t n) : ¬ t.1 = 2 := by
  rcases h with ⟨k, _⟩ | ⟨k, _⟩ | ⟨k, _⟩ <;> rw [k] <;> decide
/-- the bytes that register r leads to -/
theorem kloc (hR : cRl nm tb kb vb en jk jv jh T M) (hI : tyI nm en T) (hm : mpz nm kb vb en) {r : Nat} (hr : r < 11) (hn1 : 1 ≤ n) (hn2 : n ≤ 512) (hc : ty_can vb T (tyC T r) n) : ∃ N, f_Machine_locate M 0 (mL M 16 3 r) (nI n) = some (N, 1) ∧ cRl nm tb kb vb en jk jv jh T N ∧ sgp nm jk jv jh M N ∧ mL N = mL M ∧ mR N 5 0 18 = some (ya jv (tyC T r)) ∧ mI N 5 0 19 = nI (yA0 vb (tyC T r) (tyC T r).2.1) ∧ (∀ j, mI N 14 j = mI M 14 j) ∧ yA0 vb (tyC T r) (tyC T r).2.1 + n ≤ mZ N 14 (ya jv (tyC T r)) ∧ mZ N 14 (ya jv (tyC T r)) ≤ 100000 ∧ (∀ b, b < n → ty_key T (tyC T r) b = mI N 14 (ya jv (tyC T r)) (yA0 vb (tyC T r) (tyC T r).2.1 + b)) := by
  have hR2 := hR
  obtain ⟨hS, hmo, hst, hc1, hc2⟩ := hR2
  obtain ⟨l1, l2⟩ := can_in hc hn1
  have h7 : (tyC T r).1 = 7 → (tyC T r).2.2.1 < nm ∧ (tyC T r).2.2.2 < en (tyC T r).2.2.1 := hI _
  have hreg : mL M 16 3 r = rc_ (tyC T r) := by
    refine hmo.1 _ hr ?_
    intro z
    rcases l1 with k | k | k | k <;> rw [k] at z <;> exact absurd z (by decide)
  have hloc := cloc (M := M) (T := T) (t := tyC T r) (L := (tyC T r).2.1) (n := n) (a := rc_ (tyC T r)) hS.1 hmo.2.2.2.1.1 hmo.2.2.2.1.2 hm (by omega) l1 h7 l2 rfl
  obtain ⟨sz1, sz2⟩ := ar_sz hS hm hmo.2.2.2.1.2 l1 h7 l2
  have hkey := key_rd hR hm h7 hc
  have e14 : ∀ j, mI (wI (wR M 5 0 18 (some (ya jv (tyC T r)))) 5 0 19 (nI (yA0 vb (tyC T r) (tyC T r).2.1))) 14 j = mI M 14 j := fun j => wI_o (fun z => absurd z.1 (by decide))
  rw [hreg]
  exact ⟨_, hloc, cRl_loc hR, sgp_trans sgp_18 (sgp_5 (Or.inr rfl)), rfl, rfl, pI_same, e14, sz1, sz2, fun b hb => by rw [e14]; exact (hkey b hb).symm⟩
theorem kmap (hR : cRl nm tb kb vb en jk jv jh T M) (hI : tyI nm en T) (hm : mpz nm kb vb en) (h1 : mp1 nm kb vb) (hd : jDis nm jk jv jh) (hp : mR M 5 0 16 = some jp) (hk : lk M jp c) (hf : d_field c = 1 ∨ d_field c = 2 ∨ d_field c = 3) (ho : ty_hlp c nm tb kb vb en T = some U) : ∃ N, f_Machine_useMap M 0 (mL M 16 3 1) = some (N, 1) ∧ cRl nm tb kb vb en jk jv jh U N ∧ sgp nm jk jv jh M N ∧ tyI nm en U := by
  have hR2 := hR
  obtain ⟨hS, hmo, hst, hc1, hc2⟩ := hR2
  have hS2 := hS
  obtain ⟨⟨⟨r0, r1, r2, r3, r4, r5, r6, r7, r9⟩, ⟨z1, z2, z3, z4, z5⟩, ⟨s1, s2, s3⟩, hv⟩, hss⟩ := hS2
  unfold ty_hlp at ho
  have n4 : ¬ d_field c = 4 := by rcases hf with k | k | k <;> rw [k] <;> decide
  have n5 : ¬ d_field c = 5 := by rcases hf with k | k | k <;> rw [k] <;> decide
  have n6 : ¬ d_field c = 6 := by rcases hf with k | k | k <;> rw [k] <;> decide
  rw [if_neg n4, if_neg n5, if_neg n6] at ho
  refine Or.elim (Classical.em ((tyC T 1).1 = 6 ∧ (tyC T 1).2.2.1 < nm ∧ ty_can vb T (tyC T 2) (kb (nI (tyC T 1).2.2.1)).toNatClampNeg)).symm (fun g => ?_) (fun g => ?_)
  · rw [ic_f g] at ho; cases ho
  rw [ic_t g] at ho
  obtain ⟨g6, gm, gc⟩ := g
  have hreg : mL M 16 3 1 = (nI (tyC T 1).2.2.1).toInt64 := by
    rw [hmo.1 1 (by decide) (by rw [g6]; decide)]
    unfold rc_
    rw [if_neg (by rw [g6]; decide), if_neg (by rw [g6]; decide), if_neg (by rw [g6]; decide), if_pos g6]
  generalize (tyC T 1).2.2.1 = m at hreg gm gc ho
  have m4 : m < 4 := by omega
  have tab : ∀ m, m < 4 → ¬ (nI m).toInt64 < 0 ∧ (nI m).toInt64 < 4 ∧ (nI m).toInt64.toInt32 = nI m := by decide
  obtain ⟨t1, t2, t3⟩ := tab m m4
  obtain ⟨s4, _, _⟩ := s3 m gm
  have hs := hss m gm
  have hs2 := hs
  obtain ⟨⟨u1, u2, u3⟩, _, _, _, ⟨b1, bq, b3⟩, _⟩ := hs2
  have hb1 := h1 m gm
  obtain ⟨kp1, kp2⟩ := kn_pos hm gm
  have k1 : 1 ≤ kn kb m := by omega
  have v1 : 1 ≤ kn vb m := by omega
  obtain ⟨N0, c1, c2, c3, c4, c5, c6, c7, c8, c9, c10⟩ := kloc hR hI hm (r := 2) (by decide) k1 (by omega) gc
  obtain ⟨j16, e16⟩ : ∃ j, j = ya jv (tyC T 2) := ⟨_, rfl⟩
  obtain ⟨A, eA⟩ : ∃ A, A = yA0 vb (tyC T 2) (tyC T 2).2.1 := ⟨_, rfl⟩
  rw [← e16] at c5 c8 c9
  rw [← eA] at c6 c8
  rw [← e16, ← eA] at c10
  have p0 : mR N0 5 0 16 = some jp := by rw [c3.2.2.1 5 0 16 (fun z => absurd z.2.2 (by decide))]; exact hp
  have p6 : mR N0 5 0 6 = some 3 := by rw [c3.2.2.1 5 0 6 (fun z => absurd z.2.2 (by decide))]; exact r6
  have e2 : mI N0 2 jp = mI M 2 jp := c3.2.2.2.1 2 jp (fun z => absurd z.1 (by decide)) (fun z => absurd z.1 (by decide)) (fun z => absurd z.1 (by decide))
  have q9 : mI M 2 jp 9 = d_field c := hk.2.2.2.2.1
  have eZ : mZ N0 = mZ M := c3.2.1
  have hstart : ∀ {R : Option (me_M × Int32)}, (if d_field c = 1 then b2 (f_Store_entryOf N0 m j16 (nI A)) (fun (M43 : me_M) (r44 : Int32) => st r44.toInt64 (fun (v45 : Int64) => bd (mR M43 5 0 6) (fun (j46 : Nat) => (if v45 = (-1) then gd (0 < mZ M 16 j46) (st (wL M43 16 j46 0 (0 : Int64)) (fun (M53 : me_M) => some (M53, (1 : Int32)))) else bd (f_G_baseOf (4 + nI m)) (fun (r49 : Int64) => gd (0 < mZ M 16 j46) (st (wL M43 16 j46 0 (r49 + (jlshl v45 (20 : Int32)))) (fun (M51 : me_M) => some (M51, (1 : Int32))))))))) else (if d_field c = 3 then bd (mR N0 5 0 6) (fun (j37 : Nat) => b2 (f_Store_delete N0 m j16 (nI A)) (fun (M39 : me_M) (r40 : Int32) => gd (0 < mZ M 16 j37) (st (wL M39 16 j37 0 r40.toInt64) (fun (M42 : me_M) => some (M42, (1 : Int32)))))) else bd (mR N0 5 0 6) (fun (j23 : Nat) => gd (3 < mZ M 16 j23) (b2 (f_Machine_locate N0 0 (mL N0 16 j23 3) (mI N0 12 m 2)) (fun (M26 : me_M) (r27 : Int32) => (if r27 = 0 then some (M26, (0 : Int32)) else bd (mR M26 5 0 6) (fun (j29 : Nat) => bd (mR M26 5 0 18) (fun (j31 : Nat) => b2 (f_Store_update M26 m j16 (nI A) j31 (mI M26 5 0 19)) (fun (M33 : me_M) (r34 : Int32) => gd (0 < mZ M 16 j29) (st (wL M33 16 j29 0 r34.toInt64) (fun (M36 : me_M) => some (M36, (1 : Int32))))))))))))) = R → f_Machine_useMap M 0 (mL M 16 3 1) = R := by
    intro R h
    rw [← h]
    unfold f_Machine_useMap
    rw [hreg, if_neg t1, if_pos t2, r2, bd_some, t3, nI_tn (by omega), s2, gd_pos (show ¬ (nI m < 0 ∨ 4 ≤ m) from fun z => z.elim (nI_ps (by omega)) (fun q => by omega)), s4, oc_some, bd_some, r6, bd_some, gd_pos (show 2 < mZ M 16 3 by rw [z4]; decide), u1, c1, b2_some, if_neg (by decide), c5, bd_some, c6, st_eq, p0, bd_some, e2, q9]
  have g03 : 0 < mZ M 16 3 := by rw [z4]; decide
  rcases hf with f | f | f
  · rw [if_pos f] at ho
    have hs0 := (c2.1).2 m gm
    have hen := centry hs0 (by rw [eZ]; rw [eZ] at c8; exact c8) c9 c2.2.2.1 gm Iff.rfl rfl rfl (fun _ _ => rfl) (fun _ _ _ _ => rfl) c10
    cases e : u_find tb kb en (tyW T) m (ty_key T (tyC T 2)) with
    | some i =>
      rw [e] at ho hen
      have hi := find_lt b3 e
      obtain ⟨f1, f2⟩ := fnd_v m m4 i (by omega)
      refine ⟨wL N0 16 3 0 (rc_ (7, 0, m, i)), hstart ?_, ?_, sgp_trans c3 (sgp_L (Or.inr ⟨rfl, Or.inl rfl⟩)), ?_⟩
      · rw [if_pos f, hen, b2_some, st_eq, p6, bd_some, show rE (some i) = nI i from rfl, if_neg f2]
        unfold f_G_baseOf
        rw [bd_some, gd_pos g03, st_eq, f1]
      · rw [← Option.some.inj ho]
        exact cRl_giv (W := tyW T) c2 (fun _ => rfl)
      · rw [← Option.some.inj ho]
        exact tyI_giv hI (fun _ => ⟨gm, hi⟩)
    | none =>
      rw [e] at ho hen
      refine ⟨wL N0 16 3 0 0, hstart ?_, ?_, sgp_trans c3 (sgp_L (Or.inr ⟨rfl, Or.inl rfl⟩)), ?_⟩
      · rw [if_pos f, hen, b2_some, st_eq, p6, bd_some, if_pos (show (rE none).toInt64 = -1 by decide), gd_pos g03, st_eq]
      · rw [← Option.some.inj ho]
        exact cRl_giv (W := tyW T) c2 (fun _ => rfl)
      · rw [← Option.some.inj ho]
        exact tyI_giv hI (fun z => absurd (show (1 : Int32) = 7 from z) (by decide))
  · rw [if_neg (by rw [f]; decide), if_pos f] at ho
    refine Or.elim (Classical.em (ty_can vb T (tyC T 3) (vb (nI m)).toNatClampNeg)).symm (fun g3 => ?_) (fun g3 => ?_)
    · rw [ic_f g3] at ho; cases ho
    rw [ic_t g3] at ho
    obtain ⟨N1, x1, x2, x3, x4, x5, x6, x7, x8, x9, x10⟩ := kloc c2 hI hm (r := 3) (by decide) v1 (by omega) g3
    have eZ1 : mZ N1 = mZ N0 := x3.2.1
    obtain ⟨N2, y1, y2, y3, y4, y5, y6⟩ := kupd x2 hd gm (j1 := j16) (j3 := ya jv (tyC T 3)) (A := A) (B := yA0 vb (tyC T 3) (tyC T 3).2.1) (key := ty_key T (tyC T 2)) (val := ty_key T (tyC T 3)) (by rw [eZ1]; exact c8) (by rw [eZ1]; exact c9) x8 x9 (ya_nk hd gm (can_in g3 v1).1 (can_2 g3) (hI _)) (fun b hb => by rw [x7]; exact c10 b hb) x10
    have p61 : mR N1 5 0 6 = some 3 := by rw [x3.2.2.1 5 0 6 (fun z => absurd z.2.2 (by decide))]; exact p6
    have u2' : mI N0 12 m 2 = nI (kn vb m) := by
      rw [c3.2.2.2.1 12 m (fun z => absurd z.1 (by decide)) (fun z => absurd z.1 (by decide)) (fun z => absurd z.1 (by decide))]
      exact u2
    refine ⟨wL N2 16 3 0 (u_upd tb kb vb en (tyW T) m (ty_key T (tyC T 2)) (ty_key T (tyC T 3))).1.toInt64, hstart ?_, ?_, sgp_trans c3 (sgp_trans x3 (sgp_trans y3 (sgp_L (Or.inr ⟨rfl, Or.inl rfl⟩)))), ?_⟩
    · rw [if_neg (by rw [f]; decide), if_neg (by rw [f]; decide), p6, bd_some, gd_pos (show 3 < mZ M 16 3 by rw [z4]; decide), u2', x1, b2_some, if_neg (by decide), p61, bd_some, x5, bd_some, x6, y1, b2_some, gd_pos g03, st_eq]
    · rw [← Option.some.inj ho]
      exact cRl_giv y2 (fun _ => rfl)
    · rw [← Option.some.inj ho]
      exact tyI_giv hI (fun z => absurd (show (1 : Int32) = 7 from z) (by decide))
  · rw [if_neg (by rw [f]; decide), if_neg (by rw [f]; decide)] at ho
    obtain ⟨N2, y1, y2, y3, y4, y5, y6⟩ := kdel c2 hd gm (j1 := j16) (A := A) (key := ty_key T (tyC T 2)) c8 c9 c10
    refine ⟨wL N2 16 3 0 (u_del tb kb en (tyW T) m (ty_key T (tyC T 2))).1.toInt64, hstart ?_, ?_, sgp_trans c3 (sgp_trans y3 (sgp_L (Or.inr ⟨rfl, Or.inl rfl⟩))), ?_⟩
    · rw [if_neg (by rw [f]; decide), if_pos f, p6, bd_some, y1, b2_some, gd_pos g03, st_eq]
    · rw [← Option.some.inj ho]
      exact cRl_giv y2 (fun _ => rfl)
    · rw [← Option.some.inj ho]
      exact tyI_giv hI (fun z => absurd (show (1 : Int32) = 7 from z) (by decide))
theorem khelp (hR : cRl nm tb kb vb en jk jv jh T M) (hI : tyI nm en T) (hm : mpz nm kb vb en) (h1 : mp1 nm kb vb) (hd : jDis nm jk jv jh) (hp : mR M 5 0 16 = some jp) (hk : lk M jp c) (hf : d_field c = 1 ∨ d_field c = 2 ∨ d_field c = 3 ∨ d_field c = 4 ∨ d_field c = 5 ∨ d_field c = 6) (ho : ty_hlp c nm tb kb vb en T = some U) : ∃ N, f_Machine_help M 0 = some (N, 1) ∧ cRl nm tb kb vb en jk jv jh U N ∧ sgp nm jk jv jh M N ∧ tyI nm en U := by
  have hR2 := hR
  obtain ⟨hS, hmo, hst, hc1, hc2⟩ := hR2
  have hS2 := hS
  obtain ⟨⟨⟨r0, r1, r2, r3, r4, r5, r6, r7, r9⟩, ⟨z1, z2, z3, z4, z5⟩, ⟨s1, s2, s3⟩, hv⟩, hss⟩ := hS2
  have q9 : mI M 2 jp 9 = d_field c := hk.2.2.2.2.1
  have g03 : 0 < mZ M 16 3 := by rw [z4]; decide
  have no7 : ∀ {z : Int64}, (ty_n z).1 = 7 → (ty_n z).2.2.1 < nm ∧ (ty_n z).2.2.2 < en (ty_n z).2.2.1 := fun z => absurd (show (1 : Int32) = 7 from z) (by decide)
  unfold f_Machine_help
  rw [hp, bd_some, q9]
  by_cases f4 : d_field c = 4
  · unfold ty_hlp at ho
    rw [if_pos f4] at ho
    refine Or.elim (Classical.em ((tyC T 1).1 = 1)).symm (fun k1 => ?_) (fun k1 => ?_)
    · rw [if_neg k1] at ho; cases ho
    rw [if_pos k1] at ho
    have hv1 : mL M 16 3 1 = (tyC T 1).2.1 := by rw [hmo.1 1 (by decide) (by rw [k1]; decide), rc_1 _ k1]
    obtain ⟨a1, a2, a3, a4, a5, a6⟩ := hmo
    rw [if_pos f4, a5.1]
    by_cases q : uN (tyW T) < 1000
    · rw [if_neg (fun z => by have := (nI_lei (a := 1000) (by decide) (by omega)).mp z; omega), r9, bd_some, r6, bd_some, gd_pos (show 1 < mZ M 16 3 by rw [z4]; decide), nI_tn (by omega), gd_pos (show ¬ (nI (uN (tyW T)) < 0 ∨ mZ M 16 4 ≤ uN (tyW T)) from fun z => z.elim (nI_ps (by omega)) (fun q => by rw [z5] at q; omega)), st_eq, st_eq, pI_L, a5.1, nI_s, pR_I, pR_L, r6, bd_some, gd_pos g03, st_eq, hv1]
      have eu : u_tell (tyW T) (tyC T 1).2.1 = (uP (tyW T), uZ (tyW T), uC (tyW T), uT (tyW T), uN (tyW T) + 1, fup (uL (tyW T)) (uN (tyW T)) (tyC T 1).2.1, uH (tyW T), uK (tyW T), uV (tyW T)) := if_pos q
      refine ⟨_, rfl, ?_, sgp_trans (sgp_L (Or.inr ⟨rfl, Or.inr rfl⟩)) (sgp_trans (sgp_5 (Or.inl rfl)) (sgp_L (Or.inr ⟨rfl, Or.inl rfl⟩))), ?_⟩
      · rw [← Option.some.inj ho]
        refine cRl_giv ?_ (fun _ => rfl)
        rw [eu]
        refine ⟨cSh_of (sgp_trans (sgp_L (Or.inr ⟨rfl, Or.inr rfl⟩)) (sgp_5 (Or.inl rfl))) hS, ⟨?_, ?_, ?_, ?_, ?_, ?_⟩, ?_, ?_, ?_⟩
        · rw [pL_I, wL_o (fun z => absurd z.2 (by decide))]
          exact a1
        · rw [wI_o (fun z => absurd z.1 (by decide)), pI_L]
          exact a2
        · rw [wI_o (fun z => absurd z.1 (by decide)), pI_L]
          exact a3
        · rw [pI_place (by decide), pI_L]
          exact a4
        · rw [pI_same, pL_I, wL_h]
          refine ⟨rfl, by show uN (tyW T) + 1 ≤ 1000; omega, fun i hi => ?_⟩
          show fup (mL M 16 4) (uN (tyW T)) (tyC T 1).2.1 i = fup (uL (tyW T)) (uN (tyW T)) (tyC T 1).2.1 i
          unfold fup
          by_cases ei : i = uN (tyW T)
          · rw [if_pos ei, if_pos ei]
          · rw [if_neg ei, if_neg ei]
            have hi : i < uN (tyW T) + 1 := hi
            exact a5.2.2 i (by omega)
        · rw [pL_I, wL_o (fun z => absurd z.1 (by decide))]
          exact a6
        · exact mst_e hst (fun l hl a _ => by rw [wI_o (fun z => absurd z.1 (by decide)), pI_L]) (fun l hl a _ b hb => by rw [wI_o (fun z => absurd z.1 (by decide)), pI_L]) (fun l hl a ha b hb => by rw [wI_o (fun z => absurd z.1 (by decide)), pI_L])
        · rw [wI_o (fun z => absurd z.1 (by decide)), pI_L]
          exact hc1
        · rw [wI_o (fun z => absurd z.1 (by decide)), pI_L]
          exact hc2
      · rw [← Option.some.inj ho]
        exact tyI_giv hI no7
    · have eu : u_tell (tyW T) (tyC T 1).2.1 = tyW T := if_neg q
      rw [eu] at ho
      rw [if_pos (show (1000 : Int32) ≤ nI (uN (tyW T)) from (nI_lei (a := 1000) (b := uN (tyW T)) (by decide) (by omega)).mpr (by omega)), r6, bd_some, gd_pos g03, st_eq]
      refine ⟨_, rfl, ?_, sgp_L (Or.inr ⟨rfl, Or.inl rfl⟩), ?_⟩
      · rw [← Option.some.inj ho]
        exact cRl_giv (W := tyW T) hR (fun _ => rfl)
      · rw [← Option.some.inj ho]
        exact tyI_giv hI no7
  rw [if_neg f4]
  by_cases f5 : d_field c = 5
  · unfold ty_hlp at ho
    rw [if_neg f4, if_pos f5] at ho
    have a6 := hmo.2.2.2.2.2
    rw [if_pos f5, r6, bd_some, gd_pos g03, st_eq, st_eq, a6]
    have et : mL (wL M 16 3 0 (uT (tyW T))) 5 0 11 = uT (tyW T) := by rw [wL_o (fun z => absurd z.1 (by decide))]; exact a6
    rw [et]
    refine ⟨_, rfl, ?_, sgp_trans (sgp_L (Or.inr ⟨rfl, Or.inl rfl⟩)) (sgp_L (Or.inl ⟨rfl, rfl⟩)), ?_⟩
    · rw [← Option.some.inj ho]
      have h2 := cRl_giv (W := tyW T) (t := ty_n (uT (tyW T))) (v := uT (tyW T)) hR (fun _ => rfl)
      generalize wL M 16 3 0 (uT (tyW T)) = N at h2 ⊢
      obtain ⟨g1, ⟨b1, b2, b3, b4, b5, b6⟩, g3, g4⟩ := h2
      refine ⟨cSh_of (sgp_L (Or.inl ⟨rfl, rfl⟩)) g1, ⟨?_, b2, b3, b4, ?_, ?_⟩, g3, g4⟩
      · rw [wL_o (fun z => absurd z.1 (by decide))]
        exact b1
      · rw [wL_o (fun z => absurd z.1 (by decide))]
        exact b5
      · rw [wL_h]
        exact if_pos rfl
    · rw [← Option.some.inj ho]
      exact tyI_giv hI no7
  rw [if_neg f5]
  by_cases f6 : d_field c = 6
  · unfold ty_hlp at ho
    rw [if_neg f4, if_neg f5, if_pos f6] at ho
    refine Or.elim (Classical.em ((tyC T 2).1 = 1 ∧ 0 ≤ (tyC T 2).2.1 ∧ (tyC T 2).2.1 ≤ 512 ∧ ty_can vb T (tyC T 1) (tyC T 2).2.1.toNatClampNeg)).symm (fun k1 => ?_) (fun k1 => ?_)
    · rw [ic_f k1] at ho; cases ho
    rw [ic_t k1] at ho
    obtain ⟨N, n1, n2, n3⟩ := kmix hR hI hm k1.1 k1.2.1 k1.2.2.1 k1.2.2.2
    rw [if_pos f6, r6, bd_some, gd_pos (show 2 < mZ M 16 3 by rw [z4]; decide), n1, b2_some]
    refine ⟨N, rfl, by rw [← Option.some.inj ho]; exact n2, n3, ?_⟩
    rw [← Option.some.inj ho]
    exact tyI_giv hI no7
  rw [if_neg f6, r6, bd_some, gd_pos (show 1 < mZ M 16 3 by rw [z4]; decide)]
  obtain ⟨N, n1, n2, n3, n4⟩ := kmap hR hI hm h1 hd hp hk (by
    rcases hf with k | k | k | k | k | k
    · exact Or.inl k
    · exact Or.inr (Or.inl k)
    · exact Or.inr (Or.inr k)
    · exact absurd k f4
    · exact absurd k f5
    · exact absurd k f6) ho
  rw [n1, b2_some]
  exact ⟨N, rfl, n2, n3, n4⟩
end HCQ
