/-! PURE: the checks of mode 0 allow what the typed machine does. -/
section HCO
variable {S u i n A s : Nat} {K K2 W W2 : Nat → Int32} {M N : me_M} {T U : tyT} {c pl : Int64} {x : Int32} {vb kb : Int32 → Int32} {nm : Nat} {tb : Nat → Prop} {en jk jv jh : Nat → Nat} {p : Nat → Int64} {t X : tyV}
theorem kctx (h : kSt S u (tyK T) (tyM T) M) (hk : lk M 0 c) (ht : d_ti c < 11) (h1 : 0 ≤ pl.toInt) (h2 : pl.toInt + (d_nn c : Int) ≤ 64) (hr : jirem pl.toInt32 (d_by c) = 0) (h8 : 16 ≤ pl ∨ d_by c = 8) (hx : x = if 16 ≤ pl then 1 else if pl = 0 then 4 else 5) : ∃ N, f_Checks_allowsContext M 0 pl = some (N, 1) ∧ kSt S u (fup (tyK T) (d_ti c) x) (tyM T) N ∧ fr (sP S) M N := by
  have nb := nn_by c
  obtain ⟨q5, q6, q7, q8, q9, q10, q11, q12, q13, q14, q15⟩ := hk
  obtain ⟨kt, kt1, kt2, kt3⟩ := d_ti_n ht
  have h2' := h
  obtain ⟨⟨g0, _, gS, g3⟩, ⟨_, g5, g6⟩, hu, g7, _⟩ := h2'
  have u11 := hu.1
  have gt : ¬ (nI kt < 0 ∨ 75 ≤ kt) := fun z => z.elim (nI_ps (by omega)) (fun q => by omega)
  have c3 : ¬ pl < 0 := by rw [i64_lt]; show ¬ pl.toInt < 0; omega
  have c4 : ¬ 64 < pl + (d_by c).toInt64 := by
    rw [i64_lt, l_add (by omega) (by omega) (by rw [l_of]; omega) (by rw [l_of]; omega), l_of]
    show ¬ 64 < pl.toInt + (d_by c).toInt
    omega
  obtain ⟨n1, n2⟩ := kSt_0 (x := x) h (show kt < u by omega)
  refine ⟨wI M 10 (75 * S + kt + 1) 0 x, ?_, by rw [kt3]; exact n1, n2⟩
  have fin : f_Checks_allowsContext_b75 0 pl M x (75 * S + kt + 1) = some (wI M 10 (75 * S + kt + 1) 0 x, 1) := by
    unfold f_Checks_allowsContext_b75
    rw [st_eq]
    by_cases g : pl < 16
    · have n16 : ¬ 16 ≤ pl := by
        rw [i64_lt] at g
        rw [l_le]
        have g : pl.toInt < 16 := g
        show ¬ 16 ≤ pl.toInt
        omega
      rw [if_pos g, g0, bd_some, wI_j (fun z => absurd z.1 (by decide)), q11, if_pos (h8.resolve_left n16)]
    · rw [if_neg g]
  unfold f_Checks_allowsContext
  rw [if_neg c3, g0, bd_some, q11, if_neg c4, gd_pos by_nz, if_pos (rem_6 (by omega) (by omega) hr), g3, bd_some, q6, kt2, g5, nI_tn (by omega), gd_pos gt, g6 kt (by omega), bd_some]
  by_cases g : pl < 16
  · have n16 : ¬ 16 ≤ pl := by
      rw [i64_lt] at g
      rw [l_le]
      have g : pl.toInt < 16 := g
      show ¬ 16 ≤ pl.toInt
      omega
    rw [if_pos g]
    rw [if_neg n16] at hx
    by_cases p0 : pl = 0
    · rw [if_pos p0] at hx
      rw [if_pos p0, ← hx]
      exact fin
    · rw [if_neg p0] at hx
      rw [if_neg p0, ← hx]
      exact fin
  · have n16 : 16 ≤ pl := by
      rw [i64_lt] at g
      rw [l_le]
      have g : ¬ pl.toInt < 16 := g
      show 16 ≤ pl.toInt
      omega
    rw [if_neg g]
    rw [if_pos n16] at hx
    rw [hx] at fin ⊢
    exact fin
theorem rc_b2 (k : t.1 = 2) : rc_ t = 1099511627776 + t.2.1 := if_pos k
theorem rc_b3 (k : t.1 = 3) : rc_ t = 2199023255552 + t.2.1 := by unfold rc_; rw [if_neg (by rw [k]; decide), if_pos k]
theorem kmeml (h : kSt S u (tyK T) (tyM T) M) (hk : lk M 0 c) (hR : cRl nm tb kb vb en jk jv jh T M) (hI : tyI nm en T) (f2 : d_fam c = 2) (ht : d_ti c < 11) (hf : d_fi c < 11) (ho : ty_load c vb T = some U) : ∃ N v, f_Checks_allowsMemory M 0 3 = some (N, 1) ∧ kSt S v (tyK U) (tyM U) N ∧ fr (sP S) M N := by
  obtain ⟨hS, hmo, hst, hc1, hc2⟩ := hR
  obtain ⟨⟨⟨r0, r1, r2, r3, r4, r5, r6, r7, r9⟩, ⟨z1, z2, z3, z4, z5⟩, _, hv⟩, _⟩ := hS
  have hk2 := hk
  obtain ⟨q5, q6, q7, q8, q9, q10, q11, q12, q13, q14, q15⟩ := hk2
  obtain ⟨t, et⟩ : ∃ t, t = tyC T (d_fi c) := ⟨_, rfl⟩
  obtain ⟨pl, epl⟩ : ∃ pl, pl = ty_pl c t := ⟨_, rfl⟩
  obtain ⟨l1, l2, x, l3, l4, l5, l6, l7, l8, l9⟩ := load_rd rc_1 hmo.2.1 hI ho et epl
  obtain ⟨kf, kf1, kf2, kf3⟩ := d_fi_n hf
  obtain ⟨kt, kt1, kt2, kt3⟩ := d_ti_n ht
  have h2' := h
  obtain ⟨⟨g0, _, gS, g3⟩, ⟨_, g5, g6⟩, hu, g7, _⟩ := h2'
  have u11 := hu.1
  have hreg : mL M 16 3 kf = rc_ t := by
    rw [et, ← kf3]
    refine hmo.1 _ hf ?_
    rw [← et]
    intro z
    rcases l1 with k | k | k | k <;> rw [k] at z <;> exact absurd z (by decide)
  have ek : mI M 10 (75 * S + kf + 1) 0 = t.1 := by rw [g7 kf (by omega), et, kf3]
  have gf : ¬ (nI kf < 0 ∨ 75 ≤ kf) := fun z => z.elim (nI_ps (by omega)) (fun q => by omega)
  have gf2 : ¬ (nI kf < 0 ∨ 16 ≤ kf) := fun z => z.elim (nI_ps (by omega)) (fun q => by omega)
  have gt : ¬ (nI kt < 0 ∨ 75 ≤ kt) := fun z => z.elim (nI_ps (by omega)) (fun q => by omega)
  have hU : ∀ {N : me_M} {v : Nat}, kSt S v (fup (tyK T) (d_ti c) x.1) (tyM T) N → kSt S v (tyK U) (tyM U) N := by
    intro N v hh
    rw [l3]
    exact kSt_c hh up_K (fun _ _ _ => rfl)
  unfold f_Checks_allowsMemory
  rw [g0, bd_some, q10, f2, if_pos rfl]
  unfold f_Checks_allowsMemory_b16
  rw [if_neg (by decide), g0, bd_some, q7, kf2]
  unfold f_Checks_allowsMemory_b38
  rw [g3, bd_some, nI_tn (by omega), g5, gd_pos gf, g6 kf (by omega), bd_some, ek, st_eq, z4, gd_pos gf2, g0, bd_some, hreg, q8, st_eq, q10]
  unfold ty_in at l2
  have num : t.1 = 7 ∨ t.1 = 4 → x.1 = 1 := by
    rintro (k | k)
    · rw [l9 k]
    · rw [l8 k]
  have fin : x.1 = 1 → ∃ N v, f_Checks_allowsMemory_b136 0 M 1 = some (N, 1) ∧ kSt S v (tyK U) (tyM U) N ∧ fr (sP S) M N := by
    intro x1
    obtain ⟨n1, n2⟩ := kSt_0 (x := 1) h (show kt < u by omega)
    unfold f_Checks_allowsMemory_b136 f_Checks_allowsMemory_b141
    rw [if_neg (by decide), g3, bd_some, g0, bd_some, q6, kt2, g5, nI_tn (by omega), gd_pos gt, g6 kt (by omega), bd_some, st_eq]
    unfold f_Checks_allowsMemory_b163
    rw [if_neg (by decide), if_neg (by decide)]
    refine ⟨_, u, rfl, hU ?_, n2⟩
    rw [x1, kt3]
    exact n1
  rcases l1 with k | k | k | k
  · rw [if_pos k] at l2
    have ep : rc_ t + (d_off c).toInt64 - jlshl (1 : Int32).toInt64 40 = pl := by
      rw [rc_add (Or.inl k), rc_b2 (t := (t.1, t.2.1 + (d_off c).toInt64, t.2.2)) k, show jlshl (1 : Int32).toInt64 40 = 1099511627776 by decide, rc_pl, epl]
    obtain ⟨⟨y1, y2⟩, y3⟩ := l6 k
    obtain ⟨N, n1, n2, n3⟩ := kctx (x := x.1) h hk ht l2.1 l2.2 y1 y2 (by
      rcases y3 with ⟨w1, w2⟩ | ⟨w1, w2, w3, w4⟩ | ⟨w1, w2, w3, w4⟩
      · rw [w2, if_pos w1]
      · rw [w4, if_neg w1, if_pos w3]
      · rw [w4, if_neg w1, if_neg w3])
    rw [if_neg (by rw [k]; decide), if_pos k, if_neg (by decide)]
    unfold f_G_baseOf
    rw [bd_some, ep, n1, b2_some, if_neg (by decide)]
    exact ⟨N, u, rfl, hU n2, n3⟩
  · rw [if_neg (by rw [k]; decide), if_pos k] at l2
    have ep : rc_ t + (d_off c).toInt64 - jlshl (2 : Int32).toInt64 40 = pl := by
      rw [rc_add (Or.inr (Or.inl k)), rc_b3 (t := (t.1, t.2.1 + (d_off c).toInt64, t.2.2)) k, show jlshl (2 : Int32).toInt64 40 = 2199023255552 by decide, rc_pl, epl]
    obtain ⟨y1, y2, y3⟩ := l7 k
    obtain ⟨N, v, n1, n2, n3⟩ := kstk_l (X := x) h hk f2 ht l2.1 l2.2 y1 y3
    rw [if_pos k]
    unfold f_G_baseOf
    rw [bd_some, ep, n1, b2_some]
    exact ⟨N, v, rfl, hU n2, n3⟩
  · rw [if_neg (by rw [k]; decide), if_neg (by rw [k]; decide), if_neg (by rw [k]; decide), if_pos k, if_neg (by rw [f2]; decide)]
    exact fin (num (Or.inr k))
  · rw [if_neg (by rw [k]; decide), if_neg (by rw [k]; decide), if_pos k]
    exact fin (num (Or.inl k))
theorem kmems (h : kSt S u (tyK T) (tyM T) M) (hk : lk M 0 c) (hR : cRl nm tb kb vb en jk jv jh T M) (hI : tyI nm en T) (f2 : ¬ d_fam c = 2) (ht : d_ti c < 11) (hf : d_fi c < 11) (hx0 : ¬ (ty_op c T).1 = 0) (ht0 : ¬ (tyC T (d_ti c)).1 = 0) (ho : ty_put c vb T = some U) : ∃ N v, f_Checks_allowsMemory M 0 3 = some (N, 1) ∧ kSt S v (tyK U) (tyM U) N ∧ fr (sP S) M N := by
  obtain ⟨hS, hmo, hst, hc1, hc2⟩ := hR
  obtain ⟨⟨⟨r0, r1, r2, r3, r4, r5, r6, r7, r9⟩, ⟨z1, z2, z3, z4, z5⟩, _, hv⟩, _⟩ := hS
  have hk2 := hk
  obtain ⟨q5, q6, q7, q8, q9, q10, q11, q12, q13, q14, q15⟩ := hk2
  obtain ⟨t, et⟩ : ∃ t, t = tyC T (d_ti c) := ⟨_, rfl⟩
  obtain ⟨pl, epl⟩ : ∃ pl, pl = ty_pl c t := ⟨_, rfl⟩
  obtain ⟨l1, l0, l2, l3, l4, l5, l6, l7⟩ := put_rd rc_1 hmo hst hI ho et epl rfl hx0
  obtain ⟨kt, kt1, kt2, kt3⟩ := d_ti_n ht
  have hop := kSt_opk h hk hf
  have h2' := h
  obtain ⟨⟨g0, _, gS, g3⟩, ⟨_, g5, g6⟩, hu, g7, _⟩ := h2'
  have u11 := hu.1
  have hreg : mL M 16 3 kt = rc_ t := by
    rw [et, ← kt3]
    exact hmo.1 _ ht ht0
  have ek : mI M 10 (75 * S + kt + 1) 0 = t.1 := by rw [g7 kt (by omega), et, kt3]
  have gt : ¬ (nI kt < 0 ∨ 75 ≤ kt) := fun z => z.elim (nI_ps (by omega)) (fun q => by omega)
  have gt2 : ¬ (nI kt < 0 ∨ 16 ≤ kt) := fun z => z.elim (nI_ps (by omega)) (fun q => by omega)
  unfold f_Checks_allowsMemory
  rw [g0, bd_some, q10, if_neg f2]
  unfold f_Checks_allowsMemory_b16
  rw [if_pos rfl, g0, bd_some, q6, kt2]
  unfold f_Checks_allowsMemory_b38
  rw [g3, bd_some, nI_tn (by omega), g5, gd_pos gt, g6 kt (by omega), bd_some, ek, st_eq, z4, gd_pos gt2, g0, bd_some, hreg, q8, st_eq, q10]
  unfold ty_in at l2
  have fin : (ty_op c T).1 = 1 → tyC U = tyC T → tyM U = tyM T → ∃ N v, f_Checks_allowsMemory_b136 0 M 0 = some (N, 1) ∧ kSt S v (tyK U) (tyM U) N ∧ fr (sP S) M N := by
    intro x1 eC eM
    unfold f_Checks_allowsMemory_b136 f_Checks_allowsMemory_b141
    rw [if_pos rfl]
    unfold f_Checks_allowsMemory_b163
    rw [if_neg (by decide), if_pos rfl, hop, b2_some, if_pos x1]
    refine ⟨M, u, rfl, ?_, fr_refl⟩
    unfold tyK
    rw [eC, eM]
    exact h
  rcases l1 with k | k | k | k
  · exact absurd k l0
  · rw [if_neg (by rw [k]; decide), if_pos k] at l2
    have ep : rc_ t + (d_off c).toInt64 - jlshl (2 : Int32).toInt64 40 = pl := by
      rw [rc_add (Or.inr (Or.inl k)), rc_b3 (t := (t.1, t.2.1 + (d_off c).toInt64, t.2.2)) k, show jlshl (2 : Int32).toInt64 40 = 2199023255552 by decide, rc_pl, epl]
    obtain ⟨y1, y2, y3, y4, X, y5, y6⟩ := l5 k
    obtain ⟨N, v, n1, n2, n3⟩ := kstk_s (X := X) h hk f2 hf l2.1 l2.2 y1 (l3.elim Or.inl (fun z => Or.inr ⟨z.1, z.2.2⟩)) y2 y6
    rw [if_pos k]
    unfold f_G_baseOf
    rw [bd_some, ep, n1, b2_some]
    refine ⟨N, v, rfl, ?_, n3⟩
    rw [y5]
    exact n2
  · obtain ⟨y1, y2, y3, y4, y5, y6⟩ := l6 k
    rw [if_neg (by rw [k]; decide), if_neg (by rw [k]; decide), if_neg (by rw [k]; decide), if_pos k, if_neg y1]
    exact fin (l3.resolve_right (fun z => absurd (k.symm.trans z.2.1) (by decide))) y5 y6
  · obtain ⟨y1, y2, y3, y4, y5, y6, y7⟩ := l7 k
    rw [if_neg (by rw [k]; decide), if_neg (by rw [k]; decide), if_pos k]
    exact fin (l3.resolve_right (fun z => absurd (k.symm.trans z.2.1) (by decide))) y6 y7
/-- the kinds behind an instruction: of a call, before it is seen what FIND gave -/
def kAft (c : Int64) (U : tyT) : Nat → Int32 := if d_fam c = 9 then fup (tyK U) 0 1 else tyK U
theorem kallow {o : Option Nat} (h : kSt S u (tyK T) (tyM T) M) (hk : lk M 0 (p s)) (hR : cRl nm tb kb vb en jk jv jh T M) (hI : tyI nm en T) (hm : mpz nm kb vb en) (hg : gsl p n nm s) (ho : ty_step p nm tb kb vb en T s = some (U, o)) : ∃ N v, f_Checks_allows M 0 3 = some (N, 1) ∧ kSt S v (kAft (p s) U) (tyM U) N ∧ fr (sP S) M N := by
  obtain ⟨g1, g2, g3, g4, g5, g6, g7, g8, g9⟩ := hg
  unfold ty_step at ho
  refine Or.elim (Classical.em (ty_unr (p s) T)) (fun un => ?_) (fun un => ?_)
  · rw [if_pos un] at ho; cases ho
  rw [if_neg un] at ho
  have ut : ¬ d_rt (p s) = 0 → ¬ (tyC T (d_ti (p s))).1 = 0 := fun a b => un (Or.inl ⟨a, b⟩)
  have uf0 : ¬ d_rf (p s) = 0 → ¬ (tyC T (d_fi (p s))).1 = 0 := fun a b => un (Or.inr ⟨a, b⟩)
  have uf : ¬ (ty_op (p s) T).1 = 0 := by
    unfold ty_op
    by_cases z : d_rf (p s) = 0
    · rw [if_pos z]; exact fun q => absurd (show (1 : Int32) = 0 from q) (by decide)
    · rw [if_neg z]; exact uf0 z
  obtain ⟨kt, kt1, kt2, kt3⟩ := d_ti_n g4
  obtain ⟨kf, kf1, kf2, kf3⟩ := d_fi_n g5
  have hk2 := hk
  obtain ⟨q5, q6, q7, q8, q9, q10, q11, q12, q13, q14, q15⟩ := hk2
  have h2' := h
  obtain ⟨⟨e0, _, eS, e3⟩, ⟨_, e5, e6⟩, hu, e7, _⟩ := h2'
  have u11 := hu.1
  have gt : ¬ (nI kt < 0 ∨ 75 ≤ kt) := fun z => z.elim (nI_ps (by omega)) (fun q => by omega)
  have gf : ¬ (nI kf < 0 ∨ 75 ≤ kf) := fun z => z.elim (nI_ps (by omega)) (fun q => by omega)
  have start : f_Checks_allows M 0 3 = f_Checks_allows_b68 0 3 M := by
    have b33 : f_Checks_allows_b33 0 3 M 0 = f_Checks_allows_b68 0 3 M := by
      unfold f_Checks_allows_b33
      rw [if_pos rfl, e0, bd_some, q15]
      by_cases z : d_rf (p s) = 0
      · rw [if_pos z]
      · rw [if_neg z, e3, bd_some, q7, kf2, e5, nI_tn (by omega), gd_pos gf, e6 kf (by omega), bd_some, e7 kf (by omega)]
        have := uf0 z
        rw [kf3] at this
        rw [if_neg this]
    unfold f_Checks_allows f_Checks_allows_b32
    rw [e0, bd_some, q14, b33]
    by_cases z : d_rt (p s) = 0
    · rw [if_pos z]
    · rw [if_neg z, e3, bd_some, q6, kt2, e5, nI_tn (by omega), gd_pos gt, e6 kt (by omega), bd_some, e7 kt (by omega)]
      have := ut z
      rw [kt3] at this
      rw [if_neg this]
  rw [start]
  unfold f_Checks_allows_b68
  rw [e0, bd_some, q10]
  by_cases f8 : d_fam (p s) = 8
  · rw [if_pos f8] at ho
    cases er : ty_rel (p s) T with
    | none => rw [er] at ho; cases ho
    | some G =>
      rw [er] at ho
      have eU : U = T := (congrArg Prod.fst (Option.some.inj ho)).symm
      rw [if_neg (by rw [f8]; decide), if_neg (by rw [f8]; decide), if_neg (by rw [f8]; decide), if_neg (by rw [f8]; decide), if_neg (by rw [f8]; decide), if_neg (by rw [f8]; decide), if_neg (by rw [f8]; decide), if_pos f8]
      rw [krel h hk f8 g4 g5 hR.1.1.2.1.2.2.2.1 hR.2.1.1 er, b2_some]
      refine ⟨M, u, rfl, ?_, fr_refl⟩
      unfold kAft
      rw [if_neg (by rw [f8]; decide), eU]
      exact h
  rw [if_neg f8] at ho
  cases ed : ty_do (p s) (p (s + 1)) nm tb kb vb en T with
  | none => rw [ed] at ho; cases ho
  | some U2 =>
    rw [ed] at ho
    have eU : U = U2 := (congrArg Prod.fst (Option.some.inj ho)).symm
    subst eU
    unfold ty_do at ed
    by_cases f1 : d_fam (p s) = 1
    · rw [if_pos f1] at ed
      have eU := (Option.some.inj ed).symm
      rw [if_pos f1, e3, bd_some, q6, kt2, e5, nI_tn (by omega), gd_pos gt, e6 kt (by omega), bd_some, q7]
      unfold kAft
      rw [if_neg (show ¬ d_fam (p s) = 9 by rw [f1]; decide)]
      by_cases fr0 : d_from (p s) = 0
      · obtain ⟨n1, n2⟩ := kSt_0 (x := 1) h (show kt < u by omega)
        rw [if_pos fr0, st_eq]
        rw [if_pos fr0] at eU
        refine ⟨_, u, rfl, ?_, n2⟩
        rw [eU, kt3]
        exact kSt_c n1 up_K (fun _ _ _ => rfl)
      · obtain ⟨n1, n2⟩ := kSt_0 (x := 6) h (show kt < u by omega)
        rw [if_neg fr0, st_eq]
        rw [if_neg fr0] at eU
        refine ⟨_, u, rfl, ?_, n2⟩
        rw [eU, kt3]
        exact kSt_c n1 up_K (fun _ _ _ => rfl)
    rw [if_neg f1] at ed
    rw [if_neg f1]
    by_cases f6 : d_fam (p s) = 6
    · rw [if_pos f6] at ed
      obtain ⟨N, n1, n2, n3⟩ := kari h hk f6 g4 g5 ed
      rw [if_neg (by rw [f6]; decide), if_neg (by rw [f6]; decide), if_neg (by rw [f6]; decide), if_neg (by rw [f6]; decide), if_pos f6, n1, b2_some]
      refine ⟨N, u, rfl, ?_, n3⟩
      unfold kAft
      rw [if_neg (by rw [f6]; decide)]
      exact n2
    rw [if_neg f6] at ed
    by_cases f7 : d_fam (p s) = 7
    · rw [if_pos f7] at ed
      rw [if_neg (by rw [f7]; decide), if_neg (by rw [f7]; decide), if_neg (by rw [f7]; decide), if_neg (by rw [f7]; decide), if_neg f6, if_pos f7, ← Option.some.inj ed]
      refine ⟨M, u, rfl, ?_, fr_refl⟩
      unfold kAft
      rw [if_neg (by rw [f7]; decide)]
      exact h
    rw [if_neg f7] at ed
    by_cases f9 : d_fam (p s) = 9
    · rw [if_pos f9] at ed
      obtain ⟨N, v, n1, n2, n3⟩ := kcall h hk hR hm (g8 f9) ed
      rw [if_neg (by rw [f9]; decide), if_neg (by rw [f9]; decide), if_neg (by rw [f9]; decide), if_neg (by rw [f9]; decide), if_neg f6, if_neg f7, if_neg f8, if_pos f9, n1, b2_some]
      refine ⟨N, v, rfl, ?_, n3⟩
      unfold kAft
      rw [if_pos f9]
      exact n2
    rw [if_neg f9] at ed
    have eK : kAft (p s) U = tyK U := if_neg f9
    rw [eK]
    by_cases f10 : d_fam (p s) = 10
    · rw [if_pos f10] at ed
      by_cases k1 : (tyC T 0).1 = 1
      · rw [if_pos k1] at ed
        rw [if_neg (by rw [f10]; decide), if_neg (by rw [f10]; decide), if_neg (by rw [f10]; decide), if_neg (by rw [f10]; decide), if_neg f6, if_neg f7, if_neg f8, if_neg f9, if_pos f10, e3, bd_some, e5, gd_pos (show 0 < 75 by decide), e6 0 (by decide), bd_some, e7 0 (by decide), if_pos k1, ← Option.some.inj ed]
        exact ⟨M, u, rfl, h, fr_refl⟩
      · rw [if_neg k1] at ed; cases ed
    rw [if_neg f10] at ed
    have f5 : ¬ d_fam (p s) = 2 → ¬ d_fam (p s) = 3 → ¬ d_fam (p s) = 4 → d_fam (p s) = 5 := by
      intro a b d
      obtain ⟨k, hk1, hk2⟩ := d_lt (p s)
      have := t_fam k hk1
      rw [← hk2] at this
      have this : d_fam (p s) ∈ ([0, 1, 2, 3, 4, 5, 6, 7, 8, 9, 10] : List Int32) := this
      simp only [List.mem_cons, List.not_mem_nil, or_false] at this
      rcases this with e | e | e | e | e | e | e | e | e | e | e
      · exact absurd e g3
      · exact absurd e f1
      · exact absurd e a
      · exact absurd e b
      · exact absurd e d
      · exact e
      · exact absurd e f6
      · exact absurd e f7
      · exact absurd e f8
      · exact absurd e f9
      · exact absurd e f10
    have fin2 : ∀ {N : me_M} {R1 : Option (me_M × Int32)}, f_Checks_allowsMemory M 0 3 = some (N, 1) → (if d_fam (p s) = 2 then b2 (f_Checks_allowsMemory M 0 3) (fun (M20 : me_M) (r21 : Int32) => some (M20, r21)) else (if d_fam (p s) = 3 then b2 (f_Checks_allowsMemory M 0 3) (fun (M20 : me_M) (r21 : Int32) => some (M20, r21)) else (if d_fam (p s) = 4 then b2 (f_Checks_allowsMemory M 0 3) (fun (M20 : me_M) (r21 : Int32) => some (M20, r21)) else (if d_fam (p s) = 5 then b2 (f_Checks_allowsMemory M 0 3) (fun (M20 : me_M) (r21 : Int32) => some (M20, r21)) else R1)))) = some (N, 1) := by
      intro N R1 h
      rw [h, b2_some]
      by_cases a : d_fam (p s) = 2
      · rw [if_pos a]
      · by_cases b : d_fam (p s) = 3
        · rw [if_neg a, if_pos b]
        · by_cases d : d_fam (p s) = 4
          · rw [if_neg a, if_neg b, if_pos d]
          · rw [if_neg a, if_neg b, if_neg d, if_pos (f5 a b d)]
    by_cases f2 : d_fam (p s) = 2
    · rw [if_pos f2] at ed
      obtain ⟨N, v, n1, n2, n3⟩ := kmeml h hk hR hI f2 g4 g5 ed
      exact ⟨N, v, fin2 n1, n2, n3⟩
    · rw [if_neg f2] at ed
      have rt1 : ¬ d_rt (p s) = 0 := by
        obtain ⟨k, hk1, hk2⟩ := d_lt (p s)
        have t3 := t_m3 k hk1
        have t4 := t_m4 k hk1
        rw [← hk2] at t3 t4
        have t3 : d_fam (p s) ∈ ([3, 5] : List Int32) → d_rt (p s) = 1 ∧ d_rf (p s) = 1 := t3
        have t4 : d_fam (p s) = 4 → d_rt (p s) = 1 ∧ d_rf (p s) = 0 := t4
        by_cases b : d_fam (p s) = 3
        · rw [(t3 (by rw [b]; decide)).1]; decide
        · by_cases d : d_fam (p s) = 4
          · rw [(t4 d).1]; decide
          · rw [(t3 (by rw [f5 f2 b d]; decide)).1]; decide
      obtain ⟨N, v, n1, n2, n3⟩ := kmems h hk hR hI f2 g4 g5 uf (ut rt1) ed
      exact ⟨N, v, fin2 n1, n2, n3⟩
end HCO
