/-! PURE: the checks of mode 0 allow what the typed machine does. -/
section HCL
variable {S u i n A : Nat} {K K2 W W2 : Nat → Int32} {M N : me_M} {T U : tyT} {c pl : Int64} {x : Int32} {vb kb : Int32 → Int32} {nm : Nat} {tb : Nat → Prop} {en jk jv jh : Nat → Nat}
theorem sP_nk {k j : Nat} (h : ¬ k = 9) (h1 : ¬ k = 10) (h2 : ¬ k = 11) : ¬ sP S k j := by
  rintro (z | z)
  · exact h z.1
  · exact (cS_k z).elim h1 h2
theorem lk_fr (h : fr (sP S) M N) (hk : lk M 0 c) : lk N 0 c := by
  unfold lk
  rw [h.2.2.2.1 2 0 (sP_nk (by decide) (by decide) (by decide))]
  exact hk
theorem kcan_l (hS : ∀ a, A ≤ a → a < A + n → ty_able T (74 - a / 8) (jishl 1 (nI (a % 8)))) (hA : A + n ≤ 512) {y x4 : Int64} (hy : (y + x4).toInt = (A : Int) + n - 512) : ∀ (k a fu u : Nat) (M : me_M), a + k = A + n → A ≤ a → k < fu → kSt S u (tyK T) (tyM T) M → ∃ N v, f_Checks_canRead_l86 0 x4 fu M y (nI a - 512) = some (N, 1) ∧ kSt S v (tyK T) (tyM T) N ∧ fr (sP S) M N := by
  have tab : ∀ a, a < 513 → (nI a - 512).toInt = (a : Int) - 512 ∧ nI a - 512 + 1 = nI (a + 1) - 512 := by decide +kernel
  intro k
  induction k with
  | zero =>
    intro a fu u M e ha hf h
    obtain ⟨fu, rfl⟩ : ∃ f, fu = f + 1 := ⟨fu - 1, by omega⟩
    rw [f_Checks_canRead_l86, if_neg (by rw [i64_lt, l_of, (tab a (by omega)).1, hy]; omega)]
    exact ⟨M, u, rfl, h, fr_refl⟩
  | succ k ih =>
    intro a fu u M e ha hf h
    obtain ⟨fu, rfl⟩ : ∃ f, fu = f + 1 := ⟨fu - 1, by omega⟩
    obtain ⟨t1, t2, _⟩ := st_tab a (by omega)
    have ti := (tab a (by omega)).1
    obtain ⟨N1, v, s1, s2, s3, s4, s5, s6, _⟩ := kSt_slot h (p := nI a - 512) (by omega) (by omega)
    rw [t2] at s1 s2 s3 s4
    rw [f_Checks_canRead_l86, if_pos (by rw [i64_lt, l_of, ti, hy]; omega), h.1.2.2.1, bd_some, s1, b2_some, t1, kSt_able s5 s3 s2, ic_t (hS a ha (by omega)), b2_some, if_neg (by decide), (tab a (by omega)).2]
    obtain ⟨N2, v2, r1, r2, r3⟩ := ih (a + 1) fu v N1 (by omega) (by omega) (by omega) s5
    exact ⟨N2, v2, r1, r2, fr_trans s6 r3⟩
theorem kcan {r : Nat} (hr : r < 11) (h : kSt S u (tyK T) (tyM T) M) (hc : ty_can vb T (tyC T r) n) {ad x4 : Int64} (hb : x4.toInt = (n : Int)) (hn : n ≤ 512) (ha : (tyC T r).1 = 3 → ad = rc_ (tyC T r)) : ∃ N v, f_Checks_canRead M 0 (nI r) ad x4 = some (N, 1) ∧ kSt S v (tyK T) (tyM T) N ∧ fr (sP S) M N := by
  have h2 := h
  obtain ⟨⟨g0, _, _, g3⟩, ⟨_, g5, g6⟩, hu, g7, _⟩ := h2
  unfold f_Checks_canRead
  rw [g3, bd_some, nI_tn (by omega), g5, gd_pos (show ¬ (nI r < 0 ∨ 75 ≤ r) from fun z => z.elim (nI_ps (by omega)) (fun q => by omega)), g6 r (by omega), bd_some, g7 r (by omega), st_eq]
  rcases hc with ⟨k, a1, a2, a3⟩ | ⟨k, a⟩ | ⟨k, a⟩
  · have ea : ad - jlshl (2 : Int32).toInt64 40 = (tyC T r).2.1 := by
      rw [ha k]
      unfold rc_
      rw [if_neg (by rw [k]; decide), if_pos k, show jlshl (2 : Int32).toInt64 40 = 2199023255552 by decide]
      exact Int64.toInt_inj.mp (by rw [l_sub (by rw [l_add (by decide) (by decide) (by omega) (by omega)]; show _ ≤ 2199023255552 + _; omega) (by rw [l_add (by decide) (by decide) (by omega) (by omega)]; show 2199023255552 + _ ≤ _; omega) (by decide) (by decide), l_add (by decide) (by decide) (by omega) (by omega)]; show 2199023255552 + _ - 2199023255552 = _; omega)
    rw [if_pos k]
    unfold f_G_baseOf
    rw [bd_some, ea, st_eq]
    generalize (tyC T r).2.1 = pl at a1 a2 a3 ⊢
    have e5 : (pl + 512).toInt = pl.toInt + 512 := by rw [l_add (by omega) (by omega) (by decide) (by decide)]; rfl
    have tp := tn_pos (pl := pl + 512) (by omega)
    generalize (pl + 512).toNatClampNeg = A at tp a3
    have c1 : ¬ x4 < 0 := by rw [i64_lt]; show ¬ x4.toInt < 0; omega
    have c2 : ¬ 512 < x4 := by rw [i64_lt]; show ¬ 512 < x4.toInt; omega
    have c3 : ¬ pl < -512 := by rw [i64_lt]; show ¬ pl.toInt < -512; omega
    have es : (pl + x4).toInt = pl.toInt + n := by rw [l_add (by omega) (by omega) (by omega) (by omega), hb]
    have c4 : ¬ 0 < pl + x4 := by rw [i64_lt, es]; show ¬ 0 < pl.toInt + (n : Int); omega
    have ep : pl.toInt32 = nI A - 512 := Int32.toInt_inj.mp (by
      have tab : ∀ a, a < 513 → (nI a - 512).toInt = (a : Int) - 512 := by decide +kernel
      rw [i64_of (by omega) (by omega), tab A (by omega)]
      omega)
    rw [if_neg c1, if_neg c2, if_neg c3, if_neg c4, st_eq, ep]
    exact kcan_l (A := A) (n := n) a3 (by omega) (by rw [es]; omega) n A fuel u M rfl (Nat.le_refl _) (by unfold fuel; omega) h
  · exact ⟨M, u, by rw [if_neg (by rw [show tyK T r = 4 from k]; decide), if_pos k], h, fr_refl⟩
  · exact ⟨M, u, by rw [if_neg (by rw [show tyK T r = 7 from k]; decide), if_neg (by rw [show tyK T r = 7 from k]; decide), if_pos k], h, fr_refl⟩
theorem karg (h : kSt S u (tyK T) (tyM T) M) (hk : lk M 0 c) (hR : cRl nm tb kb vb en jk jv jh T M) (hm : mpz nm kb vb en) (hf : d_field c = 1 ∨ d_field c = 2 ∨ d_field c = 3 ∨ d_field c = 4 ∨ d_field c = 5 ∨ d_field c = 6) (ho : ty_hlp c nm tb kb vb en T = some U) : ∃ N v, f_Checks_areArguments M 0 3 = some (N, 1) ∧ kSt S v (tyK T) (tyM T) N ∧ fr (sP S) M N := by
  obtain ⟨hS, hmo, hst, hc1, hc2⟩ := hR
  obtain ⟨⟨⟨r0, r1, r2, r3, r4, r5, r6, r7, r9⟩, ⟨z1, z2, z3, z4, z5⟩, ⟨s1, s2, s3⟩, hv⟩, hss⟩ := hS
  have h2 := h
  obtain ⟨⟨g0, g1, _, g3⟩, ⟨_, g5, g6⟩, hu, g7, _⟩ := h2
  have q9 : mI M 2 0 9 = d_field c := hk.2.2.2.2.1
  unfold f_Checks_areArguments
  unfold ty_hlp at ho
  rw [g0, bd_some, q9]
  by_cases f4 : d_field c = 4
  · rw [if_pos f4] at ho
    by_cases k1 : (tyC T 1).1 = 1
    · refine ⟨M, u, ?_, h, fr_refl⟩
      rw [if_pos f4, g3, bd_some, g5, gd_pos (show 1 < 75 by decide), g6 1 (by decide), bd_some, g7 1 (by decide), if_pos k1]
    · rw [if_neg k1] at ho; cases ho
  rw [if_neg f4] at ho
  rw [if_neg f4]
  by_cases f5 : d_field c = 5
  · exact ⟨M, u, by rw [if_pos f5], h, fr_refl⟩
  rw [if_neg f5] at ho
  rw [if_neg f5]
  by_cases f6 : d_field c = 6
  · rw [if_pos f6] at ho
    refine Or.elim (Classical.em ((tyC T 2).1 = 1 ∧ 0 ≤ (tyC T 2).2.1 ∧ (tyC T 2).2.1 ≤ 512 ∧ ty_can vb T (tyC T 1) (tyC T 2).2.1.toNatClampNeg)).symm (fun k1 => ?_) (fun k1 => ?_)
    · rw [ic_f k1] at ho; cases ho
    obtain ⟨k1, k2, k3, k4⟩ := k1
    rw [l_le] at k2 k3
    have k2 : 0 ≤ (tyC T 2).2.1.toInt := k2
    have k3 : (tyC T 2).2.1.toInt ≤ 512 := k3
    have hw : mL M 16 3 2 = (tyC T 2).2.1 := by rw [hmo.1 2 (by decide) (by rw [k1]; decide), rc_1 _ k1]
    have tp := tn_pos k2
    obtain ⟨N, v, n1, n2, n3⟩ := kcan (r := 1) (by decide) h k4 (ad := mL M 16 3 1) (x4 := mL M 16 3 2) (by rw [hw]; exact tp.symm) (by omega) (fun z => hmo.1 1 (by decide) (by rw [z]; decide))
    have n1 : f_Checks_canRead M 0 1 (mL M 16 3 1) (mL M 16 3 2) = some (N, 1) := n1
    refine ⟨N, v, ?_, n2, n3⟩
    rw [if_pos f6, g3, bd_some, g5, gd_pos (show 2 < 75 by decide), g6 2 (by decide), bd_some, g7 2 (by decide), if_pos k1, z4, gd_pos (show 1 < 16 by decide), gd_pos (show 2 < 16 by decide), n1, b2_some, if_neg (by decide)]
  rw [if_neg f6] at ho
  rw [if_neg f6]
  refine Or.elim (Classical.em ((tyC T 1).1 = 6 ∧ (tyC T 1).2.2.1 < nm ∧ ty_can vb T (tyC T 2) (kb (nI (tyC T 1).2.2.1)).toNatClampNeg)).symm (fun g => ?_) (fun g => ?_)
  · rw [ic_f g] at ho; cases ho
  rw [ic_t g] at ho
  obtain ⟨k6, gm, gc⟩ := g
  have hreg : mL M 16 3 1 = (nI (tyC T 1).2.2.1).toInt64 := by
    rw [hmo.1 1 (by decide) (by rw [k6]; decide)]
    unfold rc_
    rw [if_neg (by rw [k6]; decide), if_neg (by rw [k6]; decide), if_neg (by rw [k6]; decide), if_pos k6]
  generalize (tyC T 1).2.2.1 = m at hreg gm gc ho
  have m4 : m < 4 := by omega
  have tab : ∀ m, m < 4 → ¬ (nI m).toInt64 < 0 ∧ (nI m).toInt64 < 4 ∧ (nI m).toInt64.toInt32 = nI m := by decide
  obtain ⟨t1, t2, t3⟩ := tab m m4
  obtain ⟨s4, _, _⟩ := s3 m gm
  obtain ⟨⟨u1, u2, u3⟩, _, _, _, ⟨b1, bq, b3⟩, _⟩ := hss m gm
  have hstart : f_Checks_areArguments M 0 3 = b2 (f_Checks_canRead M 0 (2 : Int32) (mL M 16 3 2) ((nI (kn kb m)).toInt64)) (fun (M43 : me_M) (r44 : Int32) => (if r44 = 0 then some (M43, (0 : Int32)) else (if (mI M43 2 0 9) = 2 then gd (3 < mZ M 16 3) (b2 (f_Checks_canRead M43 0 (3 : Int32) (mL M43 16 3 3) ((mI M43 12 m 2).toInt64)) (fun (M48 : me_M) (r49 : Int32) => (if r49 = 0 then some (M48, (0 : Int32)) else some (M48, (1 : Int32))))) else some (M43, (1 : Int32))))) := by
    unfold f_Checks_areArguments
    rw [g0, bd_some, q9, if_neg f4, if_neg f5, if_neg f6, gd_pos (show 1 < mZ M 16 3 by rw [z4]; decide), st_eq, g3, bd_some, g5, gd_pos (show 1 < 75 by decide), g6 1 (by decide), bd_some, g7 1 (by decide), if_pos k6, hreg, if_neg t1, if_pos t2, g1, bd_some, t3, nI_tn (by omega), s2, gd_pos (show ¬ (nI m < 0 ∨ 4 ≤ m) from fun z => z.elim (nI_ps (by omega)) (fun q => by omega)), s4, oc_some, bd_some, gd_pos (show 2 < mZ M 16 3 by rw [z4]; decide), u1]
  have hgoal : ∀ {R : Option (me_M × Int32)}, f_Checks_areArguments M 0 3 = R → (∃ N v, R = some (N, (1 : Int32)) ∧ kSt S v (tyK T) (tyM T) N ∧ fr (sP S) M N) → ∃ N v, f_Checks_areArguments M 0 3 = some (N, 1) ∧ kSt S v (tyK T) (tyM T) N ∧ fr (sP S) M N := by
    intro R e z
    rw [e]
    exact z
  have hfin := hgoal hstart
  unfold f_Checks_areArguments at hfin
  rw [g0, bd_some, q9, if_neg f4, if_neg f5, if_neg f6] at hfin
  apply hfin
  obtain ⟨N, v, n1, n2, n3⟩ := kcan (r := 2) (by decide) h gc (ad := mL M 16 3 2) (x4 := (nI (kn kb m)).toInt64) (nI_6 (by omega)) (by show kn kb m ≤ 512; omega) (fun z => hmo.1 2 (by decide) (by rw [z]; decide))
  have n1 : f_Checks_canRead M 0 2 (mL M 16 3 2) (nI (kn kb m)).toInt64 = some (N, 1) := n1
  rw [n1, b2_some, if_neg (by decide), (lk_fr n3 hk).2.2.2.2.1]
  by_cases f2 : d_field c = 2
  · rw [if_neg (by rw [f2]; decide), if_pos f2] at ho
    refine Or.elim (Classical.em (ty_can vb T (tyC T 3) (vb (nI m)).toNatClampNeg)).symm (fun g3 => ?_) (fun g3 => ?_)
    · rw [ic_f g3] at ho; cases ho
    have eL : mL N 16 3 3 = mL M 16 3 3 := by rw [n3.2.2.2.2 16 3 (sP_nk (by decide) (by decide) (by decide))]
    have e2 : mI N 12 m 2 = nI (kn vb m) := by rw [n3.2.2.2.1 12 m (sP_nk (by decide) (by decide) (by decide))]; exact u2
    obtain ⟨N2, v2, x1, x2, x3⟩ := kcan (r := 3) (by decide) n2 g3 (ad := mL N 16 3 3) (x4 := (nI (kn vb m)).toInt64) (nI_6 (by omega)) (by show kn vb m ≤ 512; omega) (fun z => by rw [eL]; exact hmo.1 3 (by decide) (by rw [z]; decide))
    have x1 : f_Checks_canRead N 0 3 (mL N 16 3 3) (nI (kn vb m)).toInt64 = some (N2, 1) := x1
    rw [if_pos f2, gd_pos (show 3 < mZ M 16 3 by rw [z4]; decide), e2, x1, b2_some, if_neg (by decide)]
    exact ⟨N2, v2, rfl, x2, fr_trans n3 x3⟩
  · rw [if_neg f2]
    exact ⟨N, v, rfl, n2, n3⟩
theorem kcall_l {K : Nat → Int32} : ∀ (k i fu : Nat) (M : me_M), i + k = 6 → 1 ≤ i → k < fu → kSt S u (fun j => if 1 ≤ j ∧ j < i then 0 else K j) W M → ∃ N, f_Checks_allowsCall_l8 0 fu M 1 (nI i) = some (N, 1) ∧ kSt S u (fun j => if j = 0 then 1 else if 1 ≤ j ∧ j ≤ 5 then 0 else K j) W N ∧ fr (sP S) M N := by
  intro k
  induction k with
  | zero =>
    intro i fu M e hi hf h
    obtain ⟨fu, rfl⟩ : ∃ f, fu = f + 1 := ⟨fu - 1, by omega⟩
    have h2 := h
    obtain ⟨⟨g0, g1, _, g3⟩, ⟨_, g5, g6⟩, hu, g7, _⟩ := h2
    have u11 := hu.1
    obtain ⟨n1, n2⟩ := kSt_0 (i := 0) (x := 1) h (by omega)
    rw [f_Checks_allowsCall_l8, if_pos (show 5 < nI i from (nI_lti (a := 5) (by decide) (by omega)).mpr (by omega)), g3, bd_some, g5, gd_pos (show 0 < 75 by decide), g6 0 (by decide), bd_some, st_eq]
    refine ⟨_, rfl, kSt_c n1 (fun j hj => ?_) (fun _ _ _ => rfl), n2⟩
    unfold fup
    by_cases e0 : j = 0
    · rw [if_pos e0, if_pos e0]
    · rw [if_neg e0, if_neg e0]
      by_cases a : 1 ≤ j ∧ j ≤ 5
      · rw [if_pos a]
        exact (if_pos (by omega)).symm
      · rw [if_neg a]
        exact (if_neg (by omega)).symm
  | succ k ih =>
    intro i fu M e hi hf h
    obtain ⟨fu, rfl⟩ : ∃ f, fu = f + 1 := ⟨fu - 1, by omega⟩
    have h2 := h
    obtain ⟨⟨g0, g1, _, g3⟩, ⟨_, g5, g6⟩, hu, g7, _⟩ := h2
    have u11 := hu.1
    obtain ⟨n1, n2⟩ := kSt_0 (i := i) (x := 0) h (by omega)
    rw [f_Checks_allowsCall_l8, if_neg (show ¬ 5 < nI i from fun z => by have := (nI_lti (a := 5) (by decide) (by omega)).mp z; omega), g3, bd_some, g5, nI_tn (by omega), gd_pos (show ¬ (nI i < 0 ∨ 75 ≤ i) from fun z => z.elim (nI_ps (by omega)) (fun q => by omega)), g6 i (by omega), bd_some, st_eq, nI_s]
    obtain ⟨N, r1, r2, r3⟩ := ih (i + 1) fu _ (by omega) (by omega) (by omega) (kSt_c n1 (K2 := fun j => if 1 ≤ j ∧ j < i + 1 then 0 else K j) (fun j hj => by
      unfold fup
      by_cases e0 : j = i
      · rw [if_pos e0]
        exact if_pos (by omega)
      · rw [if_neg e0]
        show (if 1 ≤ j ∧ j < i + 1 then (0 : Int32) else K j) = if 1 ≤ j ∧ j < i then 0 else K j
        by_cases a : 1 ≤ j ∧ j < i
        · rw [if_pos a]
          exact if_pos (by omega)
        · rw [if_neg a]
          exact if_neg (by omega)) (fun _ _ _ => rfl))
    exact ⟨N, r1, r2, fr_trans n2 r3⟩
theorem hlp_f (ho : ty_hlp c nm tb kb vb en T = some U) : ∃ t W, U = ty_giv T t W ∧ (¬ d_field c = 1 → t.1 = 1) ∧ (d_field c = 1 → (t.1 = 7 ∨ t.1 = 1)) := by
  unfold ty_hlp at ho
  by_cases f4 : d_field c = 4
  · rw [if_pos f4] at ho
    by_cases k1 : (tyC T 1).1 = 1
    · rw [if_pos k1] at ho
      exact ⟨_, _, (Option.some.inj ho).symm, fun _ => rfl, fun _ => Or.inr rfl⟩
    · rw [if_neg k1] at ho; cases ho
  rw [if_neg f4] at ho
  by_cases f5 : d_field c = 5
  · rw [if_pos f5] at ho
    exact ⟨_, _, (Option.some.inj ho).symm, fun _ => rfl, fun _ => Or.inr rfl⟩
  rw [if_neg f5] at ho
  by_cases f6 : d_field c = 6
  · rw [if_pos f6] at ho
    refine Or.elim (Classical.em ((tyC T 2).1 = 1 ∧ 0 ≤ (tyC T 2).2.1 ∧ (tyC T 2).2.1 ≤ 512 ∧ ty_can vb T (tyC T 1) (tyC T 2).2.1.toNatClampNeg)).symm (fun k1 => ?_) (fun k1 => ?_)
    · rw [ic_f k1] at ho; cases ho
    rw [ic_t k1] at ho
    exact ⟨_, _, (Option.some.inj ho).symm, fun _ => rfl, fun _ => Or.inr rfl⟩
  rw [if_neg f6] at ho
  refine Or.elim (Classical.em ((tyC T 1).1 = 6 ∧ (tyC T 1).2.2.1 < nm ∧ ty_can vb T (tyC T 2) (kb (nI (tyC T 1).2.2.1)).toNatClampNeg)).symm (fun g => ?_) (fun g => ?_)
  · rw [ic_f g] at ho; cases ho
  rw [ic_t g] at ho
  by_cases f1 : d_field c = 1
  · rw [if_pos f1] at ho
    cases e : u_find tb kb en (tyW T) (tyC T 1).2.2.1 (ty_key T (tyC T 2)) with
    | some i =>
      rw [e] at ho
      exact ⟨_, _, (Option.some.inj ho).symm, fun z => absurd f1 z, fun _ => Or.inl rfl⟩
    | none =>
      rw [e] at ho
      exact ⟨_, _, (Option.some.inj ho).symm, fun _ => rfl, fun _ => Or.inr rfl⟩
  rw [if_neg f1] at ho
  by_cases f2 : d_field c = 2
  · rw [if_pos f2] at ho
    refine Or.elim (Classical.em (ty_can vb T (tyC T 3) (vb (nI (tyC T 1).2.2.1)).toNatClampNeg)).symm (fun g3 => ?_) (fun g3 => ?_)
    · rw [ic_f g3] at ho; cases ho
    rw [ic_t g3] at ho
    exact ⟨_, _, (Option.some.inj ho).symm, fun _ => rfl, fun _ => Or.inr rfl⟩
  · rw [if_neg f2] at ho
    exact ⟨_, _, (Option.some.inj ho).symm, fun _ => rfl, fun _ => Or.inr rfl⟩
/-- kinds behind a call, before it is seen what FIND gave -/
theorem kcall (h : kSt S u (tyK T) (tyM T) M) (hk : lk M 0 c) (hR : cRl nm tb kb vb en jk jv jh T M) (hm : mpz nm kb vb en) (hf : d_field c = 1 ∨ d_field c = 2 ∨ d_field c = 3 ∨ d_field c = 4 ∨ d_field c = 5 ∨ d_field c = 6) (ho : ty_hlp c nm tb kb vb en T = some U) : ∃ N v, f_Checks_allowsCall M 0 3 = some (N, 1) ∧ kSt S v (fup (tyK U) 0 1) (tyM U) N ∧ fr (sP S) M N := by
  obtain ⟨N, v, n1, n2, n3⟩ := karg h hk hR hm hf ho
  obtain ⟨t, W2, e, _⟩ := hlp_f ho
  unfold f_Checks_allowsCall
  rw [n1, b2_some]
  obtain ⟨N2, r1, r2, r3⟩ := kcall_l (S := S) (u := v) (W := tyM T) (K := tyK T) 5 1 fuel N (by decide) (by decide) (by unfold fuel; decide) (kSt_c n2 (fun j hj => if_neg (by omega)) (fun _ _ _ => rfl))
  have r1 : f_Checks_allowsCall_l8 0 fuel N 1 1 = some (N2, 1) := r1
  rw [r1]
  refine ⟨N2, v, rfl, kSt_c r2 (fun j hj => ?_) (fun _ _ _ => by rw [e]; rfl), fr_trans n3 r3⟩
  rw [e]
  show (if j = 0 then (1 : Int32) else (fup (fun i => if 1 ≤ i ∧ i ≤ 5 then ((0, 0, 0, 0) : tyV) else tyC T i) 0 t j).1) = _
  by_cases e0 : j = 0
  · rw [if_pos e0, if_pos e0]
  · rw [if_neg e0, if_neg e0]
    unfold fup
    rw [if_neg e0]
    show (if 1 ≤ j ∧ j ≤ 5 then ((0, 0, 0, 0) : tyV) else tyC T j).1 = if 1 ≤ j ∧ j ≤ 5 then (0 : Int32) else (tyC T j).1
    by_cases a : 1 ≤ j ∧ j ≤ 5
    · rw [if_pos a, if_pos a]
    · rw [if_neg a, if_neg a]
end HCL
