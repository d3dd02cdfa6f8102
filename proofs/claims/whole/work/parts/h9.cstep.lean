/-! PURE: the class's Machine does a step of the typed machine. -/
def on_ : Option Nat → Int32
  | none => 0
  | some _ => 1
section HCP
variable {nm : Nat} {tb : Nat → Prop} {kb vb : Int32 → Int32} {en jk jv jh : Nat → Nat} {T U : tyT} {M N : me_M} {c v w a b x y : Int64} {jp i n m s : Nat} {op nar : Int32} {p : Nat → Int64}
theorem and_63l : (y &&& 63).toInt32 = fn_by y := Int64.toInt32_and y 63
theorem kwide (hop : op ∈ ([0, 1, 2, 3, 4, 5, 6, 7, 8, 9, 10, 11, 12, 13, 14] : List Int32)) (h13 : op = 13 ∨ op = 14 → y = 2 ∨ y = 4 ∨ y = 8) : f_Machine_reckonedWide M 0 op x y = some (M, ov op x y) := by
  unfold f_Machine_reckonedWide ov
  simp only [List.mem_cons, List.not_mem_nil, or_false] at hop
  rcases hop with e | e | e | e | e | e | e | e | e | e | e | e | e | e | e
  · rw [e, if_pos rfl, if_pos rfl]
  · rw [e, if_neg (by decide), if_pos rfl, if_neg (by decide), if_pos rfl]
  · rw [e, if_neg (by decide), if_neg (by decide), if_pos rfl, if_neg (by decide), if_neg (by decide), if_pos rfl]
  · rw [e, if_neg (by decide), if_neg (by decide), if_neg (by decide), if_pos rfl, if_neg (by decide), if_neg (by decide), if_neg (by decide), if_pos rfl, pf_quo, bd_some]
  · rw [e, if_neg (by decide), if_neg (by decide), if_neg (by decide), if_neg (by decide), if_pos rfl, if_neg (by decide), if_neg (by decide), if_neg (by decide), if_neg (by decide), if_pos rfl, pf_quo, bd_some]
  · subst e; rfl
  · subst e; rfl
  · subst e; rfl
  · subst e
    show some (M, jlshl x ((y &&& 63).toInt32)) = some (M, fn_shl x (fn_by y))
    rw [and_63l]
    rfl
  · subst e
    show some (M, jlushr x ((y &&& 63).toInt32)) = some (M, fn_shu x (fn_by y))
    rw [and_63l]
    rfl
  · subst e
    show some (M, jlshr x ((y &&& 63).toInt32)) = some (M, fn_shr x (fn_by y))
    rw [and_63l]
    rfl
  · subst e
    show some (M, -x) = some (M, 0 - x)
    rw [Int64.zero_sub]
  · subst e; rfl
  · subst e
    show bd (f_Reckoner_swapped x y.toInt32) (fun r => some (M, r)) = some (M, fn_swap x (if y = 2 then 2 else if y = 4 then 4 else 8))
    rcases h13 (Or.inl rfl) with g | g | g
    · rw [g, show (2 : Int64).toInt32 = 2 from rfl, pf_swap2, bd_some]; rfl
    · rw [g, show (4 : Int64).toInt32 = 4 from rfl, pf_swap4, bd_some]; rfl
    · rw [g, show (8 : Int64).toInt32 = 8 from rfl, pf_swap8, bd_some]; rfl
  · subst e
    show some (M, x &&& jlushr (-1) (64 - 8 * y.toInt32)) = some (M, x &&& (if y = 2 then 65535 else if y = 4 then 4294967295 else -1))
    rcases h13 (Or.inr rfl) with g | g | g
    · rw [g, show jlushr (-1) (64 - 8 * (2 : Int64).toInt32) = 65535 by decide, if_pos rfl]
    · rw [g, show jlushr (-1) (64 - 8 * (4 : Int64).toInt32) = 4294967295 by decide, if_neg (by decide), if_pos rfl]
    · rw [g, show jlushr (-1) (64 - 8 * (8 : Int64).toInt32) = -1 by decide, if_neg (by decide), if_neg (by decide)]
theorem kreck (hp : mR M 5 0 16 = some jp) (hk : lk M jp c) (f6 : d_fam c = 6) (h13 : d_opn c = 13 ∨ d_opn c = 14 → y = 2 ∨ y = 4 ∨ y = 8) : f_Machine_reckoned M 0 x y = some (M, if d_nar c = 0 then ov (d_opn c) x y else ovn (d_opn c) x y) := by
  obtain ⟨q5, q6, q7, q8, q9, q10, q11, q12, q13, q14, q15⟩ := hk
  obtain ⟨k, hk1, hk2⟩ := d_lt c
  have hop : d_opn c ∈ ([0, 1, 2, 3, 4, 5, 6, 7, 8, 9, 10, 11, 12, 13, 14] : List Int32) := by
    unfold d_opn; rw [hk2]
    unfold d_fam at f6; rw [hk2] at f6
    exact t_ar1 k hk1 f6
  have hsw := d_sw (c := c)
  unfold f_Machine_reckoned
  rw [hp, bd_some, q12, st_eq, q13]
  by_cases n0 : d_nar c = 0
  · rw [if_pos n0, if_pos n0, kwide hop h13, b2_some]
  rw [if_neg n0, if_neg n0]
  have no : ¬ (d_opn c = 13 ∨ d_opn c = 14) := fun z => n0 (hsw z).2
  generalize d_opn c = op at hop no ⊢
  unfold f_Machine_reckoned_b46 f_Machine_reckoned_b47 f_Machine_reckoned_b67 ovn
  have kw : ∀ {x y : Int64}, f_Machine_reckonedWide M 0 op x y = some (M, ov op x y) := kwide hop (fun z => absurd z no)
  have l31 : ∀ z : Int64, fn_by (z &&& 31) = fn_by (z &&& 31) := fun _ => rfl
  by_cases a : op < 8
  · have n10 : ¬ op = 10 := by intro z; rw [z] at a; exact absurd a (by decide)
    rw [if_pos a, if_neg n10, if_pos rfl, kw, b2_some, if_neg n10, if_pos a]
  · rw [if_neg a]
    by_cases b : 10 < op
    · have n10 : ¬ op = 10 := by intro z; rw [z] at b; exact absurd b (by decide)
      rw [if_pos b, if_neg n10, if_pos rfl, kw, b2_some, if_neg n10, if_neg a, if_pos b]
    · rw [if_neg b]
      by_cases t : op = 10
      · rw [if_pos t, if_neg (by decide), kw, b2_some, if_pos t, t]
        rfl
      · rw [if_neg t, if_neg (by decide), kw, b2_some, if_neg t, if_neg a, if_neg b]
theorem b_ite {P : Prop} [Decidable P] : (if P then some (M, (1 : Int32)) else some (M, (0 : Int32))) = some (M, ic P 1 0) := by
  by_cases h : P
  · rw [if_pos h, ic_t h]
  · rw [if_neg h, ic_f h]
theorem b_iten {P : Prop} [Decidable P] : (if P then some (M, (0 : Int32)) else some (M, (1 : Int32))) = some (M, ic (¬ P) 1 0) := by
  by_cases h : P
  · rw [if_pos h, ic_f (fun z => z h)]
  · rw [if_neg h, ic_t h]
theorem lt_1 {P : Prop} [Decidable P] : (if P then (1 : Int32) else 0) = ic P 1 0 := by
  by_cases h : P
  · rw [if_pos h, ic_t h]
  · rw [if_neg h, ic_f h]
theorem ic_n {P : Prop} : (if ic P (1 : Int32) 0 = 0 then some (M, (1 : Int32)) else some (M, (0 : Int32))) = some (M, ic (¬ P) 1 0) := by
  by_cases h : P
  · rw [ic_t h, if_neg (by decide), ic_f (fun z => z h)]
  · rw [ic_f h, if_pos rfl, ic_t h]
/-- a relation: unsigned of x and y, signed of sx and sy -/
theorem khb (hp : mR M 5 0 16 = some jp) (h12 : mI M 2 jp 12 = op) (hop : op ∈ ([0, 1, 2, 3, 4, 5, 6, 7, 8, 9, 10] : List Int32)) {sx sy : Int64} : f_Machine_holds_b78 0 M x y sx sy = some (M, ic (if fn_sgn op then hld op sx sy else hld op x y) 1 0) := by
  unfold f_Machine_holds_b78
  rw [hp, bd_some, h12]
  simp only [List.mem_cons, List.not_mem_nil, or_false] at hop
  rcases hop with e | e | e | e | e | e | e | e | e | e | e
  · subst e
    rw [if_pos rfl, b_ite]
    congr 2
  · subst e
    show bd (f_Num_isBelow y x) (fun r => some (M, r)) = _
    rw [pf_below, bd_some, lt_1, ic_c fn_lt_un]
    rfl
  · subst e
    show bd (f_Num_isBelow x y) (fun r => if r = 0 then some (M, 1) else some (M, 0)) = _
    rw [pf_below, bd_some, lt_1, ic_n, ic_c (Q := un y ≤ un x) (by rw [fn_lt_un]; omega)]
    rfl
  · subst e
    show (if x &&& y = 0 then some (M, (0 : Int32)) else some (M, 1)) = _
    rw [b_iten]
    rfl
  · subst e
    show (if x = y then some (M, (0 : Int32)) else some (M, 1)) = _
    rw [b_iten]
    rfl
  · subst e
    show (if sy < sx then some (M, (1 : Int32)) else some (M, 0)) = _
    rw [b_ite, ic_c i64_lt]
    rfl
  · subst e
    show (if sx < sy then some (M, (0 : Int32)) else some (M, 1)) = _
    rw [b_iten, ic_c (Q := sy.toInt ≤ sx.toInt) (by rw [i64_lt]; omega)]
    rfl
  · subst e
    show bd (f_Num_isBelow x y) (fun r => some (M, r)) = _
    rw [pf_below, bd_some, lt_1, ic_c fn_lt_un]
    rfl
  · subst e
    show bd (f_Num_isBelow y x) (fun r => if r = 0 then some (M, 1) else some (M, 0)) = _
    rw [pf_below, bd_some, lt_1, ic_n, ic_c (Q := un x ≤ un y) (by rw [fn_lt_un]; omega)]
    rfl
  · subst e
    show (if sx < sy then some (M, (1 : Int32)) else some (M, 0)) = _
    rw [b_ite, ic_c i64_lt]
    rfl
  · subst e
    show (if sy < sx then some (M, (0 : Int32)) else some (M, 1)) = _
    rw [b_iten, ic_c (Q := sx.toInt ≤ sy.toInt) (by rw [i64_lt]; omega)]
    rfl
theorem kholds (hp : mR M 5 0 16 = some jp) (hk : lk M jp c) (f8 : d_fam c = 8) : f_Machine_holds M 0 a b = some (M, ic (hldn (d_opn c) (d_nar c) a b) 1 0) := by
  obtain ⟨q5, q6, q7, q8, q9, q10, q11, q12, q13, q14, q15⟩ := hk
  have hop := rel_opn f8
  unfold f_Machine_holds f_Machine_holds_b19 f_Machine_holds_b40 f_Machine_holds_b59 hldn
  by_cases n0 : d_nar c = 0
  · simp only [hp, bd_some, q13, if_pos n0]
    rw [khb hp q12 hop]
    by_cases g : fn_sgn (d_opn c)
    · rw [if_pos g]
    · rw [if_neg g]
  · simp only [hp, bd_some, q13, if_neg n0]
    rw [khb hp q12 hop]
theorem rcG_c : rcG rc_ := ⟨rc_1, fun t w h => rc_add h, fun t h => by
  unfold rc_
  rw [if_neg (by rcases h with k | k <;> rw [k] <;> decide), if_neg (by rcases h with k | k <;> rw [k] <;> decide), if_pos h], fun m hm i hi => (nz_7 m hm i hi).1⟩
/-- a step -/
theorem kstep {ja : Nat} {o : Option Nat} (hR : cRl nm tb kb vb en jk jv jh T M) (hI : tyI nm en T) (hm : mpz nm kb vb en) (h1 : mp1 nm kb vb) (hd : jDis nm jk jv jh) (hp : mR M 5 0 16 = some jp) (hk : lk M jp (p s)) (hja : mR M 2 jp 0 = some ja) (hzj : mZ M 16 ja = 2000) (hsz : mI M 2 jp 3 = nI n) (hw : s + 1 < n → mL M 16 ja (s + 1) = p (s + 1)) (hg : gsl p n nm s) (ho : ty_step p nm tb kb vb en T s = some (U, o)) : ∃ N w, f_Machine_step M 0 (nI s) = some (N, on_ o) ∧ cRl nm tb kb vb en jk jv jh U N ∧ sgp nm jk jv jh (wI M 5 0 17 w) N ∧ tyI nm en U ∧ ∀ s1, o = some s1 → w = nI s1 := by
  obtain ⟨g1, g2, g3, g4, g5, g6, g7, g8, g9⟩ := hg
  unfold ty_step at ho
  refine Or.elim (Classical.em (ty_unr (p s) T)) (fun un => ?_) (fun un => ?_)
  · rw [if_pos un] at ho; cases ho
  rw [if_neg un] at ho
  have ut : ¬ d_rt (p s) = 0 → ¬ (tyC T (d_ti (p s))).1 = 0 := fun a b => un (Or.inl ⟨a, b⟩)
  have uf : ¬ (ty_op (p s) T).1 = 0 := by
    unfold ty_op
    by_cases z : d_rf (p s) = 0
    · rw [if_pos z]; exact fun q => absurd (show (1 : Int32) = 0 from q) (by decide)
    · rw [if_neg z]; exact fun b => un (Or.inr ⟨z, b⟩)
  obtain ⟨kt, kt1, kt2, kt3⟩ := d_ti_n g4
  obtain ⟨kf, kf1, kf2, kf3⟩ := d_fi_n g5
  obtain ⟨r4, er4⟩ : ∃ r4, r4 = (if d_fam (p s) = 1 then nI s + 2 else nI s + 1) := ⟨_, rfl⟩
  have hbeh : f_Code_behind M jp (nI s) = some (M, r4) := by
    unfold f_Code_behind
    rw [hk.2.2.2.2.2.1, er4]
    by_cases z : d_fam (p s) = 1
    · rw [if_pos z, if_pos z]
    · rw [if_neg z, if_neg z]
  obtain ⟨M5, eM5⟩ : ∃ M5, M5 = wI M 5 0 17 r4 := ⟨_, rfl⟩
  have hR5 : cRl nm tb kb vb en jk jv jh T M5 := by rw [eM5]; exact cRl_at hR
  have e2 : mI M5 2 jp = mI M 2 jp := by rw [eM5]; exact wI_o (fun z => absurd z.1 (by decide))
  have hk5 : lk M5 jp (p s) := by unfold lk; rw [e2]; exact hk
  have hp5 : mR M5 5 0 16 = some jp := by rw [eM5]; exact hp
  have hR52 := hR5
  obtain ⟨⟨⟨⟨r0, r1, r2, r3, r4', r5, r6, r7, r9⟩, ⟨z1, z2, z3, z4, z5⟩, _, hv⟩, _⟩, hmo, _⟩ := hR52
  have hk52 := hk5
  obtain ⟨q5, q6, q7, q8, q9, q10, q11, q12, q13, q14, q15⟩ := hk52
  have z4M : mZ M 16 3 = 16 := by have : mZ M5 16 3 = 16 := z4; rw [eM5] at this; exact this
  have gt : ¬ (nI kt < 0 ∨ 16 ≤ kt) := fun z => z.elim (nI_ps (by omega)) (fun q => by omega)
  have sg0 : sgp nm jk jv jh (wI M 5 0 17 r4) M5 := by rw [eM5]; exact sgp_refl
  have sg2 : ∀ {x : Int32}, sgp nm jk jv jh (wI M 5 0 17 x) (wI M5 5 0 17 x) := by
    intro x
    rw [eM5]
    refine ⟨rfl, rfl, fun _ _ _ _ => rfl, fun k j a _ _ => by rw [wI_o a, wI_o a, wI_o a], fun f _ _ => ?_, fun _ _ _ _ _ => rfl⟩
    by_cases e : f = 17
    · rw [e, pI_same, pI_same]
    · rw [pI_place e, pI_place e, pI_place e]
  unfold f_Machine_step
  rw [hp, bd_some, hbeh, b2_some, st_eq, ← eM5, hp5, bd_some, q10]
  by_cases f8 : d_fam (p s) = 8
  · rw [if_pos f8] at ho
    rw [if_neg (by rw [f8]; decide), if_neg (by rw [f8]; decide), if_neg (by rw [f8]; decide), if_neg (by rw [f8]; decide), if_neg (by rw [f8]; decide), if_neg (by rw [f8]; decide), if_neg (by rw [f8]; decide), if_pos f8]
    have rt1 : ¬ d_rt (p s) = 0 := by
      obtain ⟨k, hk1, hk2⟩ := d_lt (p s)
      unfold d_fam at f8
      unfold d_rt
      rw [hk2] at f8 ⊢
      rw [t_rel3 k hk1 f8]
      decide
    have hreg : mL M5 16 3 kt = rc_ (tyC T (d_ti (p s))) := by rw [← kt3]; exact hmo.1 _ g4 (ut rt1)
    rw [r6, bd_some, q6, kt2, nI_tn (by omega), z4M, gd_pos gt, koper hR5 hp5 hk5 g5 uf, b2_some, hreg, kholds hp5 hk5 f8, b2_some]
    cases er : ty_rel (p s) T with
    | none => rw [er] at ho; cases ho
    | some G =>
      rw [er] at ho
      have eo := Option.some.inj ho
      have eU : U = T := (congrArg Prod.fst eo).symm
      have eo2 : o = some (ic G (d_tg (p s) s) (s + 1)) := (congrArg Prod.snd eo).symm
      have key : hldn (d_opn (p s)) (d_nar (p s)) (rc_ (tyC T (d_ti (p s)))) (rc_ (ty_op (p s) T)) ↔ G := rel_rG rcG_c hI hm er
      rw [ic_c key, eU, eo2]
      by_cases hG : G
      · rw [ic_t hG, ic_t hG, if_neg (by decide), hp5, bd_some]
        unfold f_Code_target
        rw [b2_some, st_eq, q8]
        refine ⟨_, _, rfl, cRl_at hR5, sg2, hI, fun s1 z => ?_⟩
        rw [← Option.some.inj z]
        exact g7 (Or.inr f8)
      · rw [ic_f hG, ic_f hG, if_pos rfl, st_eq]
        have e17 : mI M5 5 0 17 = r4 := by rw [eM5, pI_same]
        rw [e17]
        refine ⟨_, _, rfl, cRl_at hR5, sg2, hI, fun s1 z => ?_⟩
        rw [← Option.some.inj z, er4, if_neg (by rw [f8]; decide), nI_s]
  rw [if_neg f8] at ho
  cases ed : ty_do (p s) (p (s + 1)) nm tb kb vb en T with
  | none => rw [ed] at ho; cases ho
  | some U2 =>
    rw [ed] at ho
    have eo := Option.some.inj ho
    have eU : U = U2 := (congrArg Prod.fst eo).symm
    have eo2 : o = if d_fam (p s) = 10 then none else some (x_nx p s) := (congrArg Prod.snd eo).symm
    subst eU
    have at1 : ¬ d_fam (p s) = 7 → ∀ s1, (some (x_nx p s) : Option Nat) = some s1 → r4 = nI s1 := by
      intro f7 s1 z
      rw [← Option.some.inj z, er4]
      unfold x_nx
      rw [if_neg f7]
      by_cases f1 : d_fam (p s) = 1
      · rw [if_pos f1, if_pos f1, show nI s + 2 = nI s + 1 + 1 by rw [Int32.add_assoc]; rfl, nI_s, nI_s]
      · rw [if_neg f1, if_neg f1, nI_s]
    unfold ty_do at ed
    by_cases f1 : d_fam (p s) = 1
    · rw [if_pos f1] at ed
      rw [if_neg (by rw [f1]; decide)] at eo2
      rw [eo2, if_pos f1, r6, bd_some, q7, q6, kt2, nI_tn (by omega), z4M]
      have eU := (Option.some.inj ed).symm
      by_cases fr0 : d_from (p s) = 0
      · rw [if_pos fr0] at eU
        have hwn : f_Code_wideNumber M5 jp (nI s) = some (M5, d_wn (p s) (p (s + 1))) := by
          unfold f_Code_wideNumber
          have e3 : mI M5 2 jp 3 = nI n := by rw [e2]; exact hsz
          have ea : mR M5 2 jp 0 = some ja := by rw [eM5]; exact hja
          have eL : mL M5 16 ja (s + 1) = p (s + 1) := by rw [eM5]; exact hw (g6 f1).1
          have eZ : mZ M5 16 ja = 2000 := by rw [eM5]; exact hzj
          have l1 := (g6 f1).1
          rw [e3, nI_s, if_neg (fun z => by have := (nI_lei (by omega) (by omega)).mp z; omega), ea, bd_some, nI_tn (by omega), eZ, gd_pos (show ¬ (nI (s + 1) < 0 ∨ 2000 ≤ s + 1) from fun z => z.elim (nI_ps (by omega)) (fun q => by omega)), st_eq, eL, q9]
          rfl
        rw [if_pos fr0, hwn, b2_some, gd_pos gt, st_eq]
        refine ⟨_, r4, rfl, ?_, sgp_trans sg0 (sgp_L (Or.inr ⟨rfl, Or.inl rfl⟩)), ?_, at1 (by rw [f1]; decide)⟩
        · rw [eU, kt3]
          exact cRl_reg hR5 (by omega) (fun _ => rfl)
        · rw [eU]
          exact tyI_set hI (fun z => absurd (show (1 : Int32) = 7 from z) (by decide))
      · rw [if_neg fr0] at eU
        obtain ⟨m, hm1, hm2⟩ := (g6 f1).2.2 fr0
        rw [if_neg fr0, gd_pos gt, st_eq, q9]
        have h4 := hm.1
        have em : (d_field (p s)).toNatClampNeg = m := by rw [hm2, nI_tn (by omega)]
        refine ⟨_, r4, rfl, ?_, sgp_trans sg0 (sgp_L (Or.inr ⟨rfl, Or.inl rfl⟩)), ?_, at1 (by rw [f1]; decide)⟩
        · rw [eU, kt3]
          refine cRl_reg hR5 (by omega) (fun _ => ?_)
          rw [em, hm2]
          rfl
        · rw [eU]
          exact tyI_set hI (fun z => absurd (show (6 : Int32) = 7 from z) (by decide))
    rw [if_neg f1] at ed
    rw [if_neg f1]
    by_cases f6 : d_fam (p s) = 6
    · rw [if_pos f6] at ed
      rw [if_neg (by rw [f6]; decide)] at eo2
      rw [eo2, if_neg (by rw [f6]; decide), if_neg (by rw [f6]; decide), if_neg (by rw [f6]; decide), if_neg (by rw [f6]; decide), if_pos f6]
      have rt1 : ¬ d_opn (p s) = 12 → ¬ d_rt (p s) = 0 := by
        intro z
        obtain ⟨k, hk1, hk2⟩ := d_lt (p s)
        unfold d_fam at f6
        unfold d_opn at z
        unfold d_rt
        rw [hk2] at f6 z ⊢
        rw [t_ar2 k hk1 f6, if_neg z]
        decide
      obtain ⟨t, et, e0, e7, ev⟩ := ari_rG rcG_c f6 hI ed (fun z => ut (rt1 z)) uf (a := mL M5 16 3 kt) (fun z => by rw [← kt3]; exact hmo.1 _ g4 (ut (rt1 z)))
      rw [r6, bd_some, q6, kt2, nI_tn (by omega), z4M, gd_pos gt, koper hR5 hp5 hk5 g5 uf, b2_some]
      rw [kreck hp5 hk5 f6 (fun z => by
        have hrf := (d_sw z).1
        unfold ty_op
        rw [if_pos hrf, rc_1 _ rfl]
        show d_fn (p s) = 2 ∨ d_fn (p s) = 4 ∨ d_fn (p s) = 8
        unfold d_fn
        rw [if_pos z.symm]
        rcases g9 f6 z with e | e | e
        · rw [e]; exact Or.inl (by decide)
        · rw [e]; exact Or.inr (Or.inl (by decide))
        · rw [e]; exact Or.inr (Or.inr (by decide))), b2_some, st_eq]
      refine ⟨_, r4, rfl, ?_, sgp_trans sg0 (sgp_L (Or.inr ⟨rfl, Or.inl rfl⟩)), ?_, at1 (by rw [f6]; decide)⟩
      · rw [et, kt3]
        exact cRl_reg hR5 (by omega) (fun _ => ev)
      · rw [et]
        exact tyI_set hI e7
    rw [if_neg f6] at ed
    by_cases f7 : d_fam (p s) = 7
    · rw [if_pos f7] at ed
      rw [if_neg (by rw [f7]; decide)] at eo2
      rw [eo2, if_neg (by rw [f7]; decide), if_neg (by rw [f7]; decide), if_neg (by rw [f7]; decide), if_neg (by rw [f7]; decide), if_neg f6, if_pos f7]
      unfold f_Code_target
      rw [b2_some, st_eq, q8, ← Option.some.inj ed]
      refine ⟨_, _, rfl, cRl_at hR5, sg2, hI, fun s1 z => ?_⟩
      rw [← Option.some.inj z]
      unfold x_nx
      rw [if_pos f7]
      exact g7 (Or.inl f7)
    rw [if_neg f7] at ed
    by_cases f9 : d_fam (p s) = 9
    · rw [if_pos f9] at ed
      rw [if_neg (by rw [f9]; decide)] at eo2
      rw [eo2, if_neg (by rw [f9]; decide), if_neg (by rw [f9]; decide), if_neg (by rw [f9]; decide), if_neg (by rw [f9]; decide), if_neg f6, if_neg f7, if_neg f8, if_pos f9]
      obtain ⟨N, n1, n2, n3, n4⟩ := khelp hR5 hI hm h1 hd hp5 hk5 (g8 f9) ed
      rw [n1, b2_some]
      exact ⟨N, r4, rfl, n2, sgp_trans sg0 n3, n4, at1 f7⟩
    rw [if_neg f9] at ed
    by_cases f10 : d_fam (p s) = 10
    · rw [if_pos f10] at ed
      rw [if_pos f10] at eo2
      rw [eo2, if_neg (by rw [f10]; decide), if_neg (by rw [f10]; decide), if_neg (by rw [f10]; decide), if_neg (by rw [f10]; decide), if_neg f6, if_neg f7, if_neg f8, if_neg f9]
      by_cases k1 : (tyC T 0).1 = 1
      · rw [if_pos k1] at ed
        rw [← Option.some.inj ed]
        exact ⟨M5, r4, rfl, hR5, sg0, hI, fun s1 z => by cases z⟩
      · rw [if_neg k1] at ed; cases ed
    rw [if_neg f10] at ed
    rw [if_neg f10] at eo2
    have f5 : ¬ d_fam (p s) = 2 → ¬ d_fam (p s) = 3 → ¬ d_fam (p s) = 4 → d_fam (p s) = 5 := by
      intro a b d
      obtain ⟨k, hk1, hk2⟩ := d_lt (p s)
      have := t_fam k hk1
      rw [← hk2] at this
      have this : d_fam (p s) ∈ ([0, 1, 2, 3, 4, 5, 6, 7, 8, 9, 10] : List Int32) := this
      simp only [List.mem_cons, List.not_mem_nil, or_false] at this
      rcases this with e | e | e | e | e | e | e | e | e | e | e
      · exact absurd e g3
      · exact absurd e f1
      · exact absurd e a
      · exact absurd e b
      · exact absurd e d
      · exact e
      · exact absurd e f6
      · exact absurd e f7
      · exact absurd e f8
      · exact absurd e f9
      · exact absurd e f10
    have fin2 : ∀ {N : me_M} {R1 : Option (me_M × Int32)}, f_Machine_memory M5 0 = some (N, 1) → (if d_fam (p s) = 2 then b2 (f_Machine_memory M5 0) (fun (M20 : me_M) (r21 : Int32) => some (M20, r21)) else (if d_fam (p s) = 3 then b2 (f_Machine_memory M5 0) (fun (M20 : me_M) (r21 : Int32) => some (M20, r21)) else (if d_fam (p s) = 4 then b2 (f_Machine_memory M5 0) (fun (M20 : me_M) (r21 : Int32) => some (M20, r21)) else (if d_fam (p s) = 5 then b2 (f_Machine_memory M5 0) (fun (M20 : me_M) (r21 : Int32) => some (M20, r21)) else R1)))) = some (N, 1) := by
      intro N R1 h
      rw [h, b2_some]
      by_cases a : d_fam (p s) = 2
      · rw [if_pos a]
      · by_cases b : d_fam (p s) = 3
        · rw [if_neg a, if_pos b]
        · by_cases d : d_fam (p s) = 4
          · rw [if_neg a, if_neg b, if_pos d]
          · rw [if_neg a, if_neg b, if_neg d, if_pos (f5 a b d)]
    rw [eo2]
    by_cases f2 : d_fam (p s) = 2
    · rw [if_pos f2] at ed
      obtain ⟨N, n1, n2, n3, n4⟩ := kload hR5 hI hm hp5 hk5 f2 g4 g5 ed
      exact ⟨N, r4, fin2 n1, n2, sgp_trans sg0 n3, n4, at1 f7⟩
    · rw [if_neg f2] at ed
      have rt1 : ¬ d_rt (p s) = 0 := by
        obtain ⟨k, hk1, hk2⟩ := d_lt (p s)
        have t3 := t_m3 k hk1
        have t4 := t_m4 k hk1
        rw [← hk2] at t3 t4
        have t3 : d_fam (p s) ∈ ([3, 5] : List Int32) → d_rt (p s) = 1 ∧ d_rf (p s) = 1 := t3
        have t4 : d_fam (p s) = 4 → d_rt (p s) = 1 ∧ d_rf (p s) = 0 := t4
        by_cases b : d_fam (p s) = 3
        · rw [(t3 (by rw [b]; decide)).1]; decide
        · by_cases d : d_fam (p s) = 4
          · rw [(t4 d).1]; decide
          · rw [(t3 (by rw [f5 f2 b d]; decide)).1]; decide
      obtain ⟨N, n1, n2, n3, n4⟩ := kput hR5 hI hm hd hp5 hk5 f2 g4 g5 uf (ut rt1) ed
      exact ⟨N, r4, fin2 n1, n2, sgp_trans sg0 n3, n4, at1 f7⟩
end HCP
