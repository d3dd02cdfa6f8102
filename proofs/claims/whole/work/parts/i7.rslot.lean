/-! PURE: the reference does a step of the typed machine. -/
section IRS
variable {nm : Nat} {tb : Nat → Prop} {kb vb : Int32 → Int32} {en : Nat → Nat} {T U : tyT} {W : tyU} {M N O : me_M} {c v w a b x y : Int64} {i n m s A r : Nat} {t : tyV} {op nar : Int32} {p : Nat → Int64}
theorem lo_31 : (y &&& 4294967295) &&& 31 = y &&& 31 := by rw [Int64.and_assoc]; rfl
theorem by_31 : fn_by (y &&& 31) = (y &&& 31).toInt32 := by
  have e : ((y &&& 31) &&& 63).toInt32 = fn_by (y &&& 31) := Int64.toInt32_and _ 63
  rw [← e, Int64.and_assoc]
  rfl
theorem quo_00 : fn_quo x 0 = 0 := if_pos rfl
theorem lo_32 : (x &&& 4294967295).toInt32 = x.toInt32 := by
  apply Int32.toBitVec_inj.mp
  apply BitVec.eq_of_getLsbD_eq
  intro i hi
  rw [bt_t32 hi, bt_t32 hi, bt_and]
  have t : ∀ i, i < 32 → bt 4294967295 i = true := by decide
  rw [t i hi, Bool.and_true]
theorem by_32 (y : Int64) : ∃ k, k < 32 ∧ (y &&& 31).toInt32 = nI k := by
  have l : un (y &&& 31) ≤ 31 := by
    rw [un_and, show un 31 = 31 from by decide]
    exact Nat.and_le_right
  have e := un_small (v := y &&& 31) (by omega)
  refine ⟨un (y &&& 31), by omega, Int32.toInt_inj.mp ?_⟩
  rw [i64_of (by omega) (by omega), e, nI_int (by omega)]
theorem i_am : ∀ k, k < 32 → ((nI k &&& 31).toBitVec.smod 32).toNat = k := by decide +kernel
theorem i_shr {z : Int32} {k : Nat} (hk : k < 32) : (jishr z (nI k)).toInt64 = jlshr z.toInt64 (nI k) := Int64.toInt_inj.mp (by
  rw [l_of, int_shr (by omega), l_of]
  unfold jishr
  show ((z >>> (nI k &&& 31)).toBitVec).toInt = _
  rw [Int32.toBitVec_shiftRight, BitVec.sshiftRight_eq', i_am k hk, BitVec.toInt_sshiftRight, Int.shiftRight_eq_div_pow]
  rfl)
theorem low2 : (x &&& 4294967295) &&& 4294967295 = x &&& 4294967295 := by rw [Int64.and_assoc]; rfl
theorem neg_low : (-x) &&& 4294967295 = (0 - (x &&& 4294967295)) &&& 4294967295 := un_inj (by
  have e1 : ∀ z : Int64, un (z &&& 4294967295) = un z % 4294967296 := by
    intro z
    rw [un_and, show un 4294967295 = 2 ^ 32 - 1 from by decide, Nat.and_two_pow_sub_one_eq_mod]
  rw [← Int64.zero_sub, e1, e1, un_sub, un_sub, e1, show un 0 = 0 from by decide]
  have := un_lt x
  omega)
theorem ov_2 {a b : Int64} : ov 2 a b = a * b := rfl
theorem ov_3 {a b : Int64} : ov 3 a b = fn_quo a b := rfl
theorem ov_4 {a b : Int64} : ov 4 a b = a - fn_quo a b * b := rfl
theorem ov_5 {a b : Int64} : ov 5 a b = a &&& b := rfl
theorem ov_6 {a b : Int64} : ov 6 a b = a ||| b := rfl
theorem ov_7 {a b : Int64} : ov 7 a b = a ^^^ b := rfl
theorem ov_8 {a b : Int64} : ov 8 a b = jlshl a (fn_by b) := rfl
theorem ov_9 {a b : Int64} : ov 9 a b = jlushr a (fn_by b) := rfl
theorem ov_11 {a b : Int64} : ov 11 a b = 0 - a := rfl
/-- operations of the reference -/
def rv_ (op : Int32) (A B : Int64) (k x5 : Int32) : Int64 := if op = 0 then A + B else if op = 1 then A - B else if op = 2 then A * B else if op = 3 then fn_quo A B else if op = 4 then A - fn_quo A B * B else if op = 5 then A &&& B else if op = 6 then A ||| B else if op = 7 then A ^^^ B else if op = 8 then jlshl A k else if op = 9 then jlushr A k else if op = 10 then (if x5 = 0 then jlshr A k else (jishr A.toInt32 k).toInt64) else B
theorem rb48 {x5 : Int32} {A B s0 s1 : Int64} : f_M_reckon_b48 op x5 A B s0 s1 = (if x5 = 0 then some (rv_ op A B (s1 &&& s0).toInt32 x5) else some (rv_ op A B (s1 &&& s0).toInt32 x5 &&& 4294967295)) := by
  unfold f_M_reckon_b48 rv_
  rw [st_eq]
  generalize (s1 &&& s0).toInt32 = k
  by_cases e0 : op = 0
  · rw [if_pos e0, st_eq, if_pos e0]
  rw [if_neg e0, if_neg e0]
  by_cases e1 : op = 1
  · rw [if_pos e1, st_eq, if_pos e1]
  rw [if_neg e1, if_neg e1]
  by_cases e2 : op = 2
  · rw [if_pos e2, st_eq, if_pos e2]
  rw [if_neg e2, if_neg e2]
  by_cases e3 : op = 3
  · rw [if_pos e3, if_pos e3]
    by_cases g : B = 0
    · rw [if_pos g, g, quo_00]
      by_cases z : x5 = 0
      · rw [if_pos z, if_pos z]
      · rw [if_neg z, if_neg z, Int64.zero_and]
    · rw [if_neg g, pm_quo g, bd_some]
  rw [if_neg e3, if_neg e3]
  by_cases e4 : op = 4
  · rw [if_pos e4, if_pos e4]
    by_cases g : B = 0
    · rw [if_pos g, g, quo_00, Int64.zero_mul, Int64.sub_zero]
    · rw [if_neg g, pm_quo g, bd_some, st_eq, Int64.mul_comm]
  rw [if_neg e4, if_neg e4]
  by_cases e5 : op = 5
  · rw [if_pos e5, st_eq, if_pos e5]
  rw [if_neg e5, if_neg e5]
  by_cases e6 : op = 6
  · rw [if_pos e6, st_eq, if_pos e6]
  rw [if_neg e6, if_neg e6]
  by_cases e7 : op = 7
  · rw [if_pos e7, st_eq, if_pos e7]
  rw [if_neg e7, if_neg e7]
  by_cases e8 : op = 8
  · rw [if_pos e8, st_eq, if_pos e8]
  rw [if_neg e8, if_neg e8]
  by_cases e9 : op = 9
  · rw [if_pos e9, st_eq, if_pos e9]
  rw [if_neg e9, if_neg e9]
  by_cases e10 : op = 10
  · rw [if_pos e10, if_pos e10]
    by_cases z : x5 = 0
    · rw [if_pos z, st_eq, if_pos z, if_pos z, if_pos z]
    · rw [if_neg z, st_eq, if_neg z, if_neg z, if_neg z]
  rw [if_neg e10, if_neg e10]
theorem ov_10 {a b : Int64} : ov 10 a b = jlshr a (fn_by b) := rfl
theorem rvov {A B : Int64} {k : Int32} (hk : k = fn_by B) (hop : op ∈ ([0, 1, 2, 3, 4, 5, 6, 7, 8, 9, 10, 12] : List Int32)) : rv_ op A B k 0 = ov op A B := by
  simp only [List.mem_cons, List.not_mem_nil, or_false] at hop
  rcases hop with e | e | e | e | e | e | e | e | e | e | e | e
  · subst e; rfl
  · subst e; rfl
  · subst e; rfl
  · subst e; rfl
  · subst e; rfl
  · subst e; rfl
  · subst e; rfl
  · subst e; rfl
  · subst e; rw [ov_8, ← hk]; rfl
  · subst e; rw [ov_9, ← hk]; rfl
  · subst e; rw [ov_10, ← hk]; rfl
  · subst e; rfl
theorem rreckw (hop : op ∈ ([0, 1, 2, 3, 4, 5, 6, 7, 8, 9, 10, 12] : List Int32)) : f_M_reckon op x y 0 = some (ov op x y) := by
  unfold f_M_reckon f_M_reckon_b14 f_M_reckon_b30
  rw [if_pos rfl, if_pos rfl, if_pos rfl, rb48, if_pos rfl, rvov and_63l hop]
theorem rv_8 {A B : Int64} {k x5 : Int32} : rv_ 8 A B k x5 = jlshl A k := rfl
theorem rv_9 {A B : Int64} {k x5 : Int32} : rv_ 9 A B k x5 = jlushr A k := rfl
theorem rv_c {A B C : Int64} {k x5 : Int32} (h : op = 8 ∨ op = 9) : rv_ op A B k x5 = rv_ op A C k x5 := by
  rcases h with e | e
  · rw [e, rv_8, rv_8]
  · rw [e, rv_9, rv_9]
theorem rv_5 {A B : Int64} {k x5 y5 : Int32} (h : ¬ op = 10) : rv_ op A B k x5 = rv_ op A B k y5 := by
  unfold rv_
  rw [if_neg h, if_neg h]
theorem rv_k {A B : Int64} {k l x5 : Int32} (h : ¬ (op = 8 ∨ op = 9 ∨ op = 10)) : rv_ op A B k x5 = rv_ op A B l x5 := by
  unfold rv_
  rw [if_neg (fun z => h (Or.inl z)), if_neg (fun z => h (Or.inr (Or.inl z))), if_neg (fun z => h (Or.inr (Or.inr z))), if_neg (fun z => h (Or.inl z)), if_neg (fun z => h (Or.inr (Or.inl z))), if_neg (fun z => h (Or.inr (Or.inr z)))]
theorem rv_10 {A B : Int64} {k : Int32} : rv_ 10 A B k 1 = (jishr A.toInt32 k).toInt64 := rfl
theorem rreckn (hop : op ∈ ([0, 1, 2, 3, 4, 5, 6, 7, 8, 9, 10, 12] : List Int32)) : f_M_reckon op x y 1 = some (ovn op x y) := by
  unfold f_M_reckon f_M_reckon_b14 f_M_reckon_b30
  rw [if_neg (by decide), if_neg (by decide), if_neg (by decide), rb48, if_neg (by decide), lo_31]
  unfold ovn
  by_cases e10 : op = 10
  · obtain ⟨k, hk, ek⟩ := by_32 y
    rw [if_pos e10, e10, rv_10, by_31, ek, lo_32, i_shr hk]
    rfl
  · rw [if_neg e10, rv_5 (y5 := 0) e10]
    have hlt : (op < 8 ∨ 10 < op) ∨ (op = 8 ∨ op = 9) := by
      have t : ∀ op, op ∈ ([0, 1, 2, 3, 4, 5, 6, 7, 8, 9, 10, 12] : List Int32) → ¬ op = 10 → (op < 8 ∨ 10 < op) ∨ (op = 8 ∨ op = 9) := by decide
      exact t op hop e10
    rcases hlt with g | g
    · have n8 : ¬ (op = 8 ∨ op = 9 ∨ op = 10) := by
        intro z
        rcases z with z | z | z <;> rw [z] at g <;> exact absurd g (by decide)
      have eb : (if op < 8 then y &&& 4294967295 else if 10 < op then y &&& 4294967295 else y &&& 31) = y &&& 4294967295 := by
        by_cases q : op < 8
        · rw [if_pos q]
        · rw [if_neg q, if_pos (g.resolve_left q)]
      rw [eb, rv_k (l := fn_by (y &&& 4294967295)) n8, rvov rfl hop]
    · have eb : (if op < 8 then y &&& 4294967295 else if 10 < op then y &&& 4294967295 else y &&& 31) = y &&& 31 := by
        rw [if_neg (by rcases g with z | z <;> rw [z] <;> decide), if_neg (by rcases g with z | z <;> rw [z] <;> decide)]
      rw [eb, rv_c (C := y &&& 31) g, rvov by_31.symm hop]
theorem rrelated (hop : op ∈ ([0, 1, 2, 3, 4, 5, 6, 7, 8, 9, 10] : List Int32)) : f_M_related op x y = some (ic (hld op x y) 1 0) := by
  have i1 : ∀ {P : Prop} [Decidable P], (if P then some (1 : Int32) else some 0) = some (ic P 1 0) := by
    intro P _
    by_cases h : P
    · rw [if_pos h, ic_t h]
    · rw [if_neg h, ic_f h]
  have i2 : ∀ {P : Prop} [Decidable P], (if P then some (0 : Int32) else some 1) = some (ic (¬ P) 1 0) := by
    intro P _
    by_cases h : P
    · rw [if_pos h, ic_f (fun z => z h)]
    · rw [if_neg h, ic_t h]
  have i3 : ∀ {P : Prop}, (if ic P (1 : Int32) 0 = 0 then some (1 : Int32) else some 0) = some (ic (¬ P) 1 0) := by
    intro P
    by_cases h : P
    · rw [ic_t h, if_neg (by decide), ic_f (fun z => z h)]
    · rw [ic_f h, if_pos rfl, ic_t h]
  simp only [List.mem_cons, List.not_mem_nil, or_false] at hop
  rcases hop with e | e | e | e | e | e | e | e | e | e | e
  · subst e
    show (if x = y then some (1 : Int32) else some 0) = _
    rw [i1]; rfl
  · subst e
    show bd (f_M_below y x) (fun r => some r) = _
    rw [pm_below, bd_some, lt_1, ic_c fn_lt_un]; rfl
  · subst e
    show bd (f_M_below x y) (fun r => if r = 0 then some (1 : Int32) else some 0) = _
    rw [pm_below, bd_some, lt_1, i3, ic_c (Q := un y ≤ un x) (by rw [fn_lt_un]; omega)]; rfl
  · subst e
    show (if x &&& y = 0 then some (0 : Int32) else some 1) = _
    rw [i2]; rfl
  · subst e
    show (if x = y then some (0 : Int32) else some 1) = _
    rw [i2]; rfl
  · subst e
    show (if y < x then some (1 : Int32) else some 0) = _
    rw [i1, ic_c i64_lt]; rfl
  · subst e
    show (if x < y then some (0 : Int32) else some 1) = _
    rw [i2, ic_c (Q := y.toInt ≤ x.toInt) (by rw [i64_lt]; omega)]; rfl
  · subst e
    show bd (f_M_below x y) (fun r => some r) = _
    rw [pm_below, bd_some, lt_1, ic_c fn_lt_un]; rfl
  · subst e
    show bd (f_M_below y x) (fun r => if r = 0 then some (1 : Int32) else some 0) = _
    rw [pm_below, bd_some, lt_1, i3, ic_c (Q := un x ≤ un y) (by rw [fn_lt_un]; omega)]; rfl
  · subst e
    show (if x < y then some (1 : Int32) else some 0) = _
    rw [i1, ic_c i64_lt]; rfl
  · subst e
    show (if y < x then some (0 : Int32) else some 1) = _
    rw [i2, ic_c (Q := x.toInt ≤ y.toInt) (by rw [i64_lt]; omega)]; rfl
/-- what is read of a slot -/
theorem r_dec : f_M_instruction (d_op c) = some (k_ri (d_op c)) ∧ f_M_widthOf (d_op c) = some (d_by c) ∧ f_M_hasFrom (d_op c) = some (k_fr (d_op c)) := by
  obtain ⟨k, hk1, hk2⟩ := d_lt c
  unfold d_by
  rw [hk2]
  exact t_in k hk1
theorem rgoes (hS : rSh nm tb kb vb en M) (f8 : d_fam c = 8) (ht : d_ti c < 11) (hf : d_fi c < 11) (hy : y = if d_rf c = 0 then d_fn c else mL M 16 5 (d_fi c)) : f_M_goes M 0 c = some (M, ic (hldn (d_opn c) (d_nar c) (mL M 16 5 (d_ti c)) y) 1 0) := by
  obtain ⟨⟨r5, r6, r7, r8, r9, r10, r11, r16, r17, r35, r36, r39, r43, r44, r45, r46⟩, ⟨y0, y1, y2', y3, y4', y5, y6, y7, y8, y9, y10, y11, y12, y13, y14, y15⟩, hm4, hmm⟩ := hS
  obtain ⟨k, hk1, hk2⟩ := d_lt c
  obtain ⟨kt, kt1, kt2, kt3⟩ := d_ti_n ht
  obtain ⟨kf, kf1, kf2, kf3⟩ := d_fi_n hf
  have f8' : (kd (nI k)).1 = 8 := by unfold d_fam at f8; rw [hk2] at f8; exact f8
  have h1 : f_M_relationOf (jishr (d_op c) 4) = some (d_opn c) := by unfold d_opn; rw [hk2]; exact t_rel1 k hk1 f8'
  have h2 : f_M_isNarrow (d_op c) = some (d_nar c) := by unfold d_nar; rw [hk2]; exact t_nar k hk1 (Or.inl f8')
  have h3 : k_fr (d_op c) = d_rf c := by unfold d_rf; rw [hk2]; exact t_rf k hk1 (Or.inl f8')
  have hop := rel_opn f8
  have n13 : ¬ (d_opn c = 14 ∨ d_opn c = 13) := by
    have t : ∀ op, op ∈ ([0, 1, 2, 3, 4, 5, 6, 7, 8, 9, 10] : List Int32) → ¬ (op = 14 ∨ op = 13) := by decide
    exact t _ hop
  have fin : ∀ a z : Int64, f_M_goes_b48 M (d_op c) (d_opn c) a z = some (M, ic (hldn (d_opn c) (d_nar c) a z) 1 0) := by
    intro a z
    have s1 : f_M_goes_b94 M (d_opn c) a z = some (M, ic (hld (d_opn c) a.toInt32.toInt64 z.toInt32.toInt64) 1 0) := by
      unfold f_M_goes_b94 f_M_goes_b99
      rw [if_neg (by decide), rrelated hop, bd_some]
    have s0 : f_M_goes_b99 M (d_opn c) a z 0 = some (M, ic (hld (d_opn c) (a &&& 4294967295) (z &&& 4294967295)) 1 0) := by
      unfold f_M_goes_b99
      rw [if_pos rfl, rrelated hop, bd_some]
    unfold f_M_goes_b48 hldn
    rw [h2, bd_some, s1, s0]
    by_cases n0 : d_nar c = 0
    · rw [if_pos n0, if_pos n0, rrelated hop, bd_some]
    · rw [if_neg n0, if_neg n0]
      have sg : fn_sgn (d_opn c) ↔ (d_opn c = 5 ∨ d_opn c = 6 ∨ d_opn c = 9 ∨ d_opn c = 10) := by
        have t : ∀ op, op ∈ ([0, 1, 2, 3, 4, 5, 6, 7, 8, 9, 10] : List Int32) → (fn_sgn op ↔ (op = 5 ∨ op = 6 ∨ op = 9 ∨ op = 10)) := by decide
        exact t _ hop
      by_cases g : fn_sgn (d_opn c)
      · rw [if_pos g]
        rcases sg.mp g with e | e | e | e
        · rw [if_pos e]
        · rw [if_neg (show ¬ d_opn c = 5 by rw [e]; decide), if_pos e]
        · rw [if_neg (show ¬ d_opn c = 5 by rw [e]; decide), if_neg (show ¬ d_opn c = 6 by rw [e]; decide), if_pos e]
        · rw [if_neg (show ¬ d_opn c = 5 by rw [e]; decide), if_neg (show ¬ d_opn c = 6 by rw [e]; decide), if_neg (show ¬ d_opn c = 9 by rw [e]; decide), if_pos e]
      · rw [if_neg g, if_neg (fun z => g (sg.mpr (Or.inl z))), if_neg (fun z => g (sg.mpr (Or.inr (Or.inl z)))), if_neg (fun z => g (sg.mpr (Or.inr (Or.inr (Or.inl z))))), if_neg (fun z => g (sg.mpr (Or.inr (Or.inr (Or.inr z)))))]
  unfold f_M_goes
  rw [r_op, bd_some, h1, bd_some, r43, bd_some, r_to, bd_some, kt2, nI_tn (by omega), y15, gd_pos (show ¬ (nI kt < 0 ∨ 11 ≤ kt) from fun z => z.elim (nI_ps (by omega)) (fun q => by omega)), st_eq, (r_dec (c := c)).2.2, bd_some, h3]
  by_cases rf : d_rf c = 0
  · rw [if_pos rf] at hy
    rw [if_pos rf, r_field, bd_some, fin, hy, kt3]
    unfold d_fn
    rw [if_neg n13]
  · rw [if_neg rf] at hy
    rw [if_neg rf, r_from, bd_some, kf2, nI_tn (by omega), gd_pos (show ¬ (nI kf < 0 ∨ 11 ≤ kf) from fun z => z.elim (nI_ps (by omega)) (fun q => by omega)), fin, hy, kt3, kf3]
theorem rswap_l (r43 : mR M 1 0 43 = some 5) (y15 : mZ M 16 5 = 11) (ht : i < 11) (hn : n ≤ 8) : ∀ (k j fu : Nat), j + k = n → k < fu → f_M_runArithmetic_l137 0 fu M (nI i) (nI n) (fn_swap (mL M 16 5 i) j) (nI j) = some (wL M 16 5 i (fn_swap (mL M 16 5 i) n)) := by
  have gt : ¬ (nI i < 0 ∨ 11 ≤ i) := fun z => z.elim (nI_ps (by omega)) (fun q => by omega)
  intro k
  induction k with
  | zero =>
    intro j fu e hf
    obtain ⟨fu, rfl⟩ : ∃ f, fu = f + 1 := ⟨fu - 1, by omega⟩
    rw [f_M_runArithmetic_l137, if_pos ((nI_lei (by omega) (by omega)).mpr (by omega)), r43, bd_some, nI_tn (by omega), y15, gd_pos gt, st_eq, show j = n by omega]
  | succ k ih =>
    intro j fu e hf
    obtain ⟨fu, rfl⟩ : ∃ f, fu = f + 1 := ⟨fu - 1, by omega⟩
    rw [f_M_runArithmetic_l137, if_neg (fun z => by have := (nI_lei (by omega) (by omega)).mp z; omega), r43, bd_some, nI_tn (by omega), y15, gd_pos gt, st_eq, sw_eq (by omega), nI_s]
    exact ih (j + 1) fu (by omega) (by omega)
theorem rari_ (hS : rSh nm tb kb vb en M) (f6 : d_fam c = 6) (ht : d_ti c < 11) (hf : d_fi c < 11) (h64 : d_opn c = 13 ∨ d_opn c = 14 → f_64 c) (hy : y = if d_rf c = 0 then d_fn c else mL M 16 5 (d_fi c)) : f_M_runArithmetic M 0 c = some (wL M 16 5 (d_ti c) (if d_nar c = 0 then ov (d_opn c) (mL M 16 5 (d_ti c)) y else ovn (d_opn c) (mL M 16 5 (d_ti c)) y)) := by
  obtain ⟨⟨r5, r6, r7, r8, r9, r10, r11, r16, r17, r35, r36, r39, r43, r44, r45, r46⟩, ⟨y0, y1, y2', y3, y4', y5, y6, y7, y8, y9, y10, y11, y12, y13, y14, y15⟩, hm4, hmm⟩ := hS
  obtain ⟨k, hk1, hk2⟩ := d_lt c
  obtain ⟨kt, kt1, kt2, kt3⟩ := d_ti_n ht
  obtain ⟨kf, kf1, kf2, kf3⟩ := d_fi_n hf
  have gt : ¬ (nI kt < 0 ∨ 11 ≤ kt) := fun z => z.elim (nI_ps (by omega)) (fun q => by omega)
  have gf : ¬ (nI kf < 0 ∨ 11 ≤ kf) := fun z => z.elim (nI_ps (by omega)) (fun q => by omega)
  have f6' : (kd (nI k)).1 = 6 := by unfold d_fam at f6; rw [hk2] at f6; exact f6
  have hop : d_opn c ∈ ([0, 1, 2, 3, 4, 5, 6, 7, 8, 9, 10, 11, 12, 13, 14] : List Int32) := by
    unfold d_opn; rw [hk2]; exact t_ar1 k hk1 f6'
  have hri : k_ri (d_op c) = if d_opn c = 11 then 7 else if d_opn c = 14 then 8 else if d_opn c = 13 then 9 else 6 := by
    unfold k_ri d_opn
    rw [hk2, if_pos f6']
  have hnar : ¬ d_opn c = 13 → ¬ d_opn c = 14 → f_M_isNarrow (d_op c) = some (d_nar c) := by
    intro a b
    unfold d_opn at a b
    unfold d_nar
    rw [hk2] at a b ⊢
    exact t_nar k hk1 (Or.inr ⟨f6', a, b⟩)
  have h01 : d_nar c = 0 ∨ d_nar c = 1 := by unfold d_nar; rw [hk2]; exact (t_01 k hk1).1
  unfold f_M_runArithmetic
  rw [r_op, bd_some, (r_dec (c := c)).1, bd_some, r_to, bd_some, r_field, bd_some, st_eq, hri, kt2, nI_tn (by omega), kt3]
  by_cases o11 : d_opn c = 11
  · rw [if_pos o11, if_pos rfl, r43, bd_some, hnar (by rw [o11]; decide) (by rw [o11]; decide), bd_some, y15]
    by_cases n0 : d_nar c = 0
    · rw [if_pos n0, gd_pos gt, st_eq, if_pos n0, o11, ov_11, Int64.zero_sub]
    · rw [if_neg n0, gd_pos gt, st_eq, if_neg n0, o11]
      have e : ovn 11 (mL M 16 5 kt) y = (0 - (mL M 16 5 kt &&& 4294967295)) &&& 4294967295 := by
        unfold ovn
        rw [if_neg (by decide), ov_11]
      rw [e, neg_low]
  rw [if_neg o11]
  by_cases o14 : d_opn c = 14
  · have hrf := (d_sw (Or.inr o14)).1
    have hn0 := (d_sw (Or.inr o14)).2
    rw [if_pos hrf] at hy
    unfold d_fn at hy
    rw [if_pos (Or.inl o14)] at hy
    rw [if_pos o14, if_neg (by decide), if_pos rfl, r43, bd_some, y15, if_pos hn0, o14]
    have ev : ov 14 (mL M 16 5 kt) y = mL M 16 5 kt &&& (if y = 2 then 65535 else if y = 4 then 4294967295 else -1) := rfl
    rw [ev]
    rcases h64 (Or.inr o14) with e | e | e
    · rw [e] at hy
      rw [e, if_neg (show ¬ (16 : Int32) / 8 = 8 by decide), gd_pos gt, st_eq, st_eq, hy, if_pos (show ((16 : Int32) / 8).toInt64 = 2 by decide), show jlshl 1 (8 * ((16 : Int32) / 8)) - 1 = 65535 by decide]
    · rw [e] at hy
      rw [e, if_neg (show ¬ (32 : Int32) / 8 = 8 by decide), gd_pos gt, st_eq, st_eq, hy, if_neg (show ¬ ((32 : Int32) / 8).toInt64 = 2 by decide), if_pos (show ((32 : Int32) / 8).toInt64 = 4 by decide), show jlshl 1 (8 * ((32 : Int32) / 8)) - 1 = 4294967295 by decide]
    · rw [e] at hy
      rw [e, if_pos (show (64 : Int32) / 8 = 8 by decide), gd_pos gt, st_eq, hy, if_neg (show ¬ ((64 : Int32) / 8).toInt64 = 2 by decide), if_neg (show ¬ ((64 : Int32) / 8).toInt64 = 4 by decide), Int64.and_neg_one]
  rw [if_neg o14]
  by_cases o13 : d_opn c = 13
  · have hrf := (d_sw (Or.inl o13)).1
    have hn0 := (d_sw (Or.inl o13)).2
    rw [if_pos hrf] at hy
    unfold d_fn at hy
    rw [if_pos (Or.inr o13)] at hy
    rw [if_pos o13, if_neg (by decide), if_neg (by decide), if_pos rfl, if_pos hn0, o13]
    have ev : ov 13 (mL M 16 5 kt) y = fn_swap (mL M 16 5 kt) (if y = 2 then 2 else if y = 4 then 4 else 8) := rfl
    rw [ev]
    have sw : ∀ n, n ≤ 8 → f_M_runArithmetic_l137 0 fuel M (nI kt) (nI n) 0 0 = some (wL M 16 5 kt (fn_swap (mL M 16 5 kt) n)) := fun n hn => rswap_l r43 y15 kt1 hn n 0 fuel (by omega) (by unfold fuel; omega)
    rcases h64 (Or.inl o13) with e | e | e
    · rw [e] at hy
      rw [e, hy, if_pos (show ((16 : Int32) / 8).toInt64 = 2 by decide), show (16 : Int32) / 8 = nI 2 by decide]
      exact sw 2 (by decide)
    · rw [e] at hy
      rw [e, hy, if_neg (show ¬ ((32 : Int32) / 8).toInt64 = 2 by decide), if_pos (show ((32 : Int32) / 8).toInt64 = 4 by decide), show (32 : Int32) / 8 = nI 4 by decide]
      exact sw 4 (by decide)
    · rw [e] at hy
      rw [e, hy, if_neg (show ¬ ((64 : Int32) / 8).toInt64 = 2 by decide), if_neg (show ¬ ((64 : Int32) / 8).toInt64 = 4 by decide), show (64 : Int32) / 8 = nI 8 by decide]
      exact sw 8 (by decide)
  rw [if_neg o13, if_neg (by decide), if_neg (by decide), if_neg (by decide), r43, bd_some]
  have hri6 : k_ri (nI k) = 6 := by
    rw [← hk2, hri, if_neg o11, if_neg o14, if_neg o13]
  have h1 : f_M_operationOf (jishr (d_op c) 4) = some (d_opn c) := by unfold d_opn; rw [hk2]; exact t_opn1 k hk1 hri6
  have h3 : k_fr (d_op c) = d_rf c := by
    unfold d_rf
    unfold d_opn at o13
    rw [hk2] at o13 ⊢
    exact t_rf k hk1 (Or.inr ⟨f6', o13⟩)
  have hop2 : d_opn c ∈ ([0, 1, 2, 3, 4, 5, 6, 7, 8, 9, 10, 12] : List Int32) := by
    have t : ∀ op, op ∈ ([0, 1, 2, 3, 4, 5, 6, 7, 8, 9, 10, 11, 12, 13, 14] : List Int32) → ¬ op = 11 → ¬ op = 14 → ¬ op = 13 → op ∈ ([0, 1, 2, 3, 4, 5, 6, 7, 8, 9, 10, 12] : List Int32) := by decide
    exact t _ hop o11 o14 o13
  have n13 : ¬ (d_opn c = 14 ∨ d_opn c = 13) := fun z => z.elim o14 o13
  have hrk : ∀ x y : Int64, f_M_reckon (d_opn c) x y (d_nar c) = some (if d_nar c = 0 then ov (d_opn c) x y else ovn (d_opn c) x y) := by
    intro x y
    rcases h01 with z | z
    · rw [z, if_pos rfl, rreckw hop2]
    · rw [z, if_neg (by decide), rreckn hop2]
  rw [h1, bd_some, y15, gd_pos gt, (r_dec (c := c)).2.2, bd_some, h3]
  by_cases rf : d_rf c = 0
  · rw [if_pos rf] at hy
    unfold d_fn at hy
    rw [if_neg n13] at hy
    rw [if_pos rf, bd_some, hnar o13 o14, bd_some, hrk, bd_some, st_eq, hy]
  · rw [if_neg rf] at hy
    rw [if_neg rf, r_from, bd_some, kf2, nI_tn (by omega), gd_pos gf, hnar o13 o14, bd_some, hrk, bd_some, st_eq, hy, kf3]
end IRS
