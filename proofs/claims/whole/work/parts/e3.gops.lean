/-! PURE: the other operations on numbers. -/
section GO
variable {x y : fn_N} {u v w a b c d : Int64}
theorem un_mul : un (a * b) = un a * un b % 18446744073709551616 := by
  unfold un
  rw [Int64.toBitVec_mul, BitVec.toNat_mul]
theorem un_nz (h : ¬ b = 0) : 0 < un b := by
  rcases Nat.eq_zero_or_pos (un b) with z | z
  · exact absurd (un_inj (y := 0) z) h
  · exact z
/-- how many lowest bits are 0 -/
theorem tz_ex (o : Int64) : ∃ t, t ≤ 64 ∧ un o % 2 ^ t = 0 ∧ (t < 64 → bt o t = true) := by
  have key : ∀ k, k ≤ 64 → (un o % 2 ^ k = 0 ∨ ∃ t, t < k ∧ un o % 2 ^ t = 0 ∧ bt o t = true) := by
    intro k
    induction k with
    | zero => intro _; exact Or.inl (Nat.mod_one _)
    | succ k ih =>
      intro hk
      rcases ih (by omega) with z | ⟨t, t1, t2, t3⟩
      · by_cases g : bt o k = true
        · exact Or.inr ⟨k, by omega, z, g⟩
        · rw [Bool.not_eq_true] at g
          exact Or.inl (mod_succ.mpr ⟨z, by rw [← un_bt]; exact g⟩)
      · exact Or.inr ⟨t, by omega, t2, t3⟩
  rcases key 64 (Nat.le_refl _) with z | ⟨t, t1, t2, t3⟩
  · exact ⟨64, Nat.le_refl _, z, fun q => absurd q (by decide)⟩
  · exact ⟨t, by omega, t2, fun _ => t3⟩
theorem lz_ex (n1 n2 : Int64) : ∃ t, t ≤ 64 ∧ un (n1 ||| n2) % 2 ^ t = 0 ∧ fn_lz n1 n2 = nI t := by
  obtain ⟨t, t1, t2, t3⟩ := tz_ex (n1 ||| n2)
  exact ⟨t, t1, t2, by unfold fn_lz; exact lz_of t1 t2 t3⟩
theorem gN_mul1 (hx : gN x a) (hy : gN y b) : gN (fn_mul1 x.1 x.2.1 x.2.2.1 x.2.2.2.1 y.1 y.2.1 y.2.2.1 y.2.2.2.1) (a * b) := by
  obtain ⟨s, s1, s2, s3⟩ := lz_ex x.1 x.2.1
  obtain ⟨t, t1, t2, t3⟩ := lz_ex y.1 y.2.1
  have za : un a % 2 ^ s = 0 := by have := mod_sub_le (gN_b2 hx) s; omega
  have zb : un b % 2 ^ t = 0 := by have := mod_sub_le (gN_b2 hy) t; omega
  have um := un_mul (a := a) (b := b)
  have zm : ∀ k, k ≤ s + t → k ≤ 64 → un (a * b) % 2 ^ k = 0 := by
    intro k hk hk2
    have d1 : 2 ^ s ∣ un a := Nat.dvd_of_mod_eq_zero za
    have d2 : 2 ^ t ∣ un b := Nat.dvd_of_mod_eq_zero zb
    have d3 : 2 ^ (s + t) ∣ un a * un b := by rw [Nat.pow_add]; exact Nat.mul_dvd_mul d1 d2
    have d4 : 2 ^ k ∣ un a * un b := Nat.dvd_trans (Nat.pow_dvd_pow 2 hk) d3
    have d5 : 2 ^ k ∣ 18446744073709551616 := by
      rw [show (18446744073709551616 : Nat) = 2 ^ 64 from rfl]
      exact Nat.pow_dvd_pow 2 hk2
    rw [um, Nat.mod_mod_of_dvd _ d5]
    exact Nat.mod_eq_zero_of_dvd d4
  have zbit : ∀ i, i < 64 → i < s + t → bt (a * b) i = false := by
    intro i hi h
    have := zm (i + 1) (by omega) (by omega)
    rw [un_bt]
    exact (mod_succ.mp this).2
  have h3 := hx.2.2.1
  have h4 := hx.2.2.2.1
  have g3 := hy.2.2.1
  have g4 := hy.2.2.2.1
  unfold fn_mul1
  rw [s3, t3, nI_add]
  refine gN_u ?_ ?_ ?_ ?_
  · intro i hi z
    rw [bt_0] at z
    exact absurd z (by decide)
  · intro i hi z
    rw [bt_0]
    by_cases g : nI (s + t) < 64
    · have g2 : s + t < 64 := (nI_lti (b := 64) (by omega) (by decide)).mp g
      rw [if_pos g, show (-1 : Int64) <<< ((nI (s + t)).toInt64 &&& 63) = jlshl (-1) (nI (s + t)) from rfl, bt_shl g2, decide_eq_true hi, Bool.true_and] at z
      by_cases q : i < s + t
      · exact zbit i hi q
      · rw [decide_eq_false q, Bool.not_false, Bool.true_and, bt_m1 (by omega)] at z
        exact absurd z (by decide)
    · have g2 : ¬ s + t < 64 := fun q => g ((nI_lti (b := 64) (by omega) (by decide)).mpr q)
      exact zbit i hi (by omega)
  · split
    · exact u_ge _
    · rename_i o1
      split
      · exact u_ge _
      · rename_i o2
        rw [fn_lt_un, show un 4294967295 = 4294967295 from by decide] at o1 o2
        rw [un_mul, um]
        have m1 : un x.2.2.1 * un y.2.2.1 ≤ un a * un b := Nat.mul_le_mul h3 g3
        have m2 : un a * un b ≤ 4294967295 * 4294967295 := Nat.mul_le_mul (by omega) (by omega)
        rw [Nat.mod_eq_of_lt (by omega), Nat.mod_eq_of_lt (by omega)]
        exact m1
  · split
    · exact u_le _
    · rename_i o1
      split
      · exact u_le _
      · rename_i o2
        rw [fn_lt_un, show un 4294967295 = 4294967295 from by decide] at o1 o2
        rw [un_mul, un_mul]
        have m1 : un a * un b ≤ un x.2.2.2.1 * un y.2.2.2.1 := Nat.mul_le_mul h4 g4
        have m2 : un x.2.2.2.1 * un y.2.2.2.1 ≤ 4294967295 * 4294967295 := Nat.mul_le_mul (by omega) (by omega)
        rw [Nat.mod_eq_of_lt (by omega), Nat.mod_eq_of_lt (by omega)]
        exact m1
theorem gN_mul (hx : gN x a) (hy : gN y b) : gN (fn_mul x.1 x.2.1 x.2.2.1 x.2.2.2.1 y.1 y.2.1 y.2.2.1 y.2.2.2.1) (a * b) := by
  unfold fn_mul
  by_cases e1 : x.2.1 = 0
  · rw [if_pos e1]
    by_cases e2 : y.2.1 = 0
    · rw [if_pos e2, ← gN_ex hx e1, ← gN_ex hy e2]
      exact ex_gN
    · rw [if_neg e2]; exact gN_mul1 hx hy
  · rw [if_neg e1]; exact gN_mul1 hx hy
theorem quo_0 : fn_quo a 0 = 0 := by unfold fn_quo; rw [if_pos rfl]
theorem gN_div (hx : gN x a) (hy : gN y b) : gN (fn_div x.2.2.1 x.2.2.2.1 y.1 y.2.1) (fn_quo a b) := by
  have h3 := hx.2.2.1
  have h4 := hx.2.2.2.1
  unfold fn_div
  by_cases e : y.2.1 = 0
  · have eb := gN_ex hy e
    rw [if_pos e]
    by_cases z : y.1 = 0
    · rw [if_pos z, eb, z, quo_0]; exact ex_gN
    · rw [if_neg z, eb]
      refine gN_u z_m1 m1_z ?_ ?_
      · rw [un_quo z, un_quo z]; exact Nat.div_le_div_right h3
      · rw [un_quo z, un_quo z]; exact Nat.div_le_div_right h4
  · rw [if_neg e]
    refine gN_u z_m1 m1_z (u_ge _) ?_
    by_cases z : b = 0
    · rw [z, quo_0, un_z]; omega
    · rw [un_quo z]
      exact Nat.le_trans (Nat.div_le_self _ _) h4
theorem un_rest (h : ¬ b = 0) : un (a - fn_quo a b * b) = un a % un b := by
  have ub := un_nz h
  have la := un_lt a
  have e1 : un (fn_quo a b * b) = un a / un b * un b := by
    rw [un_mul, un_quo h]
    exact Nat.mod_eq_of_lt (by have := Nat.div_mul_le_self (un a) (un b); omega)
  have dm := Nat.div_add_mod (un a) (un b)
  rw [Nat.mul_comm] at dm
  rw [un_sub, e1]
  omega
theorem gN_rest (hx : gN x a) (hy : gN y b) : gN (fn_rest x.1 x.2.1 x.2.2.1 x.2.2.2.1 x.2.2.2.2.1 x.2.2.2.2.2 y.1 y.2.1) (a - fn_quo a b * b) := by
  have h4 := hx.2.2.2.1
  have zz : b = 0 → a - fn_quo a b * b = a := fun z => by rw [z, quo_0, Int64.zero_mul, Int64.sub_zero]
  unfold fn_rest
  by_cases e : y.2.1 = 0
  · have eb := gN_ex hy e
    rw [if_pos e]
    by_cases z : y.1 = 0
    · rw [if_pos z, zz (eb.trans z)]; exact hx
    · rw [if_neg z]
      have nb : ¬ b = 0 := by rw [eb]; exact z
      by_cases g : fn_lt x.2.2.2.1 y.1
      · rw [if_pos g]
        rw [fn_lt_un] at g
        have : a - fn_quo a b * b = a := un_inj (by rw [un_rest nb, eb]; exact Nat.mod_eq_of_lt (by omega))
        rw [this]; exact hx
      · rw [if_neg g]
        refine gN_u z_m1 m1_z (u_ge _) ?_
        have ub := un_nz z
        have l := un_lt y.1
        rw [un_rest nb, eb, un_sub, show un 1 = 1 from by decide]
        have := Nat.mod_lt (un a) ub
        omega
  · rw [if_neg e]
    refine gN_u z_m1 m1_z (u_ge _) ?_
    by_cases z : b = 0
    · rw [zz z]; exact h4
    · rw [un_rest z]; exact Nat.le_trans (Nat.mod_le _ _) h4
theorem gN_and (hx : gN x a) (hy : gN y b) : gN (fn_and x.1 x.2.1 x.2.2.2.1 y.1 y.2.1 y.2.2.2.1) (a &&& b) := by
  have h4 := hx.2.2.2.1
  have g4 := hy.2.2.2.1
  unfold fn_and
  refine gN_u (fun i hi z => ?_) (fun i hi z => ?_) (u_ge _) ?_
  · rw [bt_and, bt_not hi, z, Bool.not_true, Bool.and_false]
  · rw [bt_and, bt_and, bt_or, bt_or, bt_not hi, bt_and] at z
    rw [bt_and, bt_and]
    have i1 := hx.1 i hi
    have i2 := hx.2.1 i hi
    have j1 := hy.1 i hi
    have j2 := hy.2.1 i hi
    cases p : bt x.1 i <;> cases q : bt x.2.1 i <;> cases r : bt y.1 i <;> cases s : bt y.2.1 i <;> rw [p, q] at i1 i2 <;> rw [r, s] at j1 j2 <;> rw [p, q, r, s] at z <;> simp at z i1 i2 j1 j2 <;> simp [i2, j2] <;> simp_all
  · rw [un_min, un_min, un_m1]
    have l := un_lt (a &&& b)
    have m1 : un (a &&& b) ≤ un a := by rw [un_and]; exact Nat.and_le_left
    have m2 : un (a &&& b) ≤ un b := by rw [un_and]; exact Nat.and_le_right
    omega
theorem gN_or (hx : gN x a) (hy : gN y b) : gN (x.1 ||| y.1, (x.2.1 ||| y.2.1) &&& ((x.1 ||| y.1) ^^^ -1), fn_max (fn_max 0 x.2.2.1) y.2.2.1, -1, -9223372036854775808, 9223372036854775807) (a ||| b) := by
  have h3 := hx.2.2.1
  have g3 := hy.2.2.1
  refine gN_u (fun i hi z => ?_) (fun i hi z => ?_) ?_ (u_le _)
  · rw [bt_and, bt_not hi, z, Bool.not_true, Bool.and_false]
  · rw [bt_and, bt_or, bt_not hi, bt_or] at z
    rw [bt_or, bt_or]
    have i1 := hx.1 i hi
    have i2 := hx.2.1 i hi
    have j1 := hy.1 i hi
    have j2 := hy.2.1 i hi
    cases p : bt x.1 i <;> cases q : bt x.2.1 i <;> cases r : bt y.1 i <;> cases s : bt y.2.1 i <;> rw [p, q] at i1 i2 <;> rw [r, s] at j1 j2 <;> rw [p, q, r, s] at z <;> simp at z i1 i2 j1 j2 <;> simp [i2, j2] <;> simp_all
  · rw [un_max, un_max, un_z]
    have m1 : un a ≤ un (a ||| b) := un_sub_le (fun i hi g => by rw [bt_or, g, Bool.true_or])
    have m2 : un b ≤ un (a ||| b) := un_sub_le (fun i hi g => by rw [bt_or, g, Bool.or_true])
    omega
theorem gN_xor (hx : gN x a) (hy : gN y b) : gN ((x.1 ^^^ y.1) &&& ((x.2.1 ||| y.2.1) ^^^ -1), x.2.1 ||| y.2.1, 0, -1, -9223372036854775808, 9223372036854775807) (a ^^^ b) := by
  refine gN_u msk_1 (msk_2 (fun i hi z => ?_)) (u_ge _) (u_le _)
  rw [bt_or] at z
  have q : bt x.2.1 i = false := by cases q : bt x.2.1 i <;> rw [q] at z <;> simp at z <;> rfl
  have s : bt y.2.1 i = false := by cases s : bt y.2.1 i <;> rw [s] at z <;> simp at z <;> rfl
  rw [bt_xor, bt_xor, hx.2.1 i hi q, hy.2.1 i hi s]
/-! shifts by an exact number -/
theorem un_shl {k : Nat} (h : k < 64) : un (jlshl a (nI k)) = un a * 2 ^ k % 18446744073709551616 := by
  apply Nat.eq_of_testBit_eq
  intro i
  rw [← un_bt, bt_shl h, show (18446744073709551616 : Nat) = 2 ^ 64 from rfl, Nat.testBit_mod_two_pow, Nat.testBit_mul_two_pow, ← un_bt]
  by_cases g : i < k
  · rw [decide_eq_true g, decide_eq_false (show ¬ k ≤ i by omega)]; simp
  · rw [decide_eq_false g, decide_eq_true (show k ≤ i by omega)]; simp
theorem int_shr {k : Nat} (h : k < 64) : (jlshr a (nI k)).toInt = a.toInt / 2 ^ k := by
  unfold jlshr
  show ((a >>> ((nI k).toInt64 &&& 63)).toBitVec).toInt = _
  rw [Int64.toBitVec_shiftRight, sh_am2 h, BitVec.sshiftRight_eq', BitVec.toNat_ofNat, BitVec.toInt_sshiftRight, Nat.mod_eq_of_lt (show k < 2 ^ 64 by omega), Int.shiftRight_eq_div_pow]
  rfl
theorem by_63 (o : Int64) : ∃ k, k < 64 ∧ fn_by o = nI k := by
  have : ∀ z : Int32, ∃ k, k < 64 ∧ z &&& 63 = nI k := by
    intro z
    refine ⟨(z &&& 63).toNatClampNeg, ?_, ?_⟩
    · have l : (z &&& 63).toBitVec.toNat ≤ 63 := by
        rw [Int32.toBitVec_and, BitVec.toNat_and]
        exact Nat.and_le_right
      have e : (z &&& 63).toInt = ((z &&& 63).toBitVec.toNat : Int) := by
        show (z &&& 63).toBitVec.toInt = _
        rw [BitVec.toInt_eq_toNat_cond, if_pos (by omega)]
      have e2 : (z &&& 63).toNatClampNeg = (z &&& 63).toInt.toNat := rfl
      omega
    · refine tc_nI ?_
      have l : (z &&& 63).toBitVec.toNat ≤ 63 := by
        rw [Int32.toBitVec_and, BitVec.toNat_and]
        exact Nat.and_le_right
      have e : (z &&& 63).toInt = ((z &&& 63).toBitVec.toNat : Int) := by
        show (z &&& 63).toBitVec.toInt = _
        rw [BitVec.toInt_eq_toNat_cond, if_pos (by omega)]
      rw [Int32.lt_iff_toInt_lt, show (0 : Int32).toInt = 0 from rfl, e]
      omega
  exact this _
theorem gN_shift (hx : gN x a) (hy : gN y b) {op : Int32} : gN (fn_shift x.1 x.2.1 x.2.2.1 x.2.2.2.1 x.2.2.2.2.1 x.2.2.2.2.2 y.1 y.2.1 op) (if op = 8 then fn_shl a (fn_by b) else if op = 9 then fn_shu a (fn_by b) else fn_shr a (fn_by b)) := by
  unfold fn_shift
  by_cases e : y.2.1 = 0
  · rw [if_pos e, gN_ex hy e]
    obtain ⟨k, hk, ek⟩ := by_63 y.1
    rw [ek]
    have h3 := hx.2.2.1
    have h4 := hx.2.2.2.1
    have h5 := hx.2.2.2.2.1
    have h6 := hx.2.2.2.2.2
    by_cases o8 : op = 8
    · rw [if_pos o8, if_pos o8]
      show gN (jlshl x.1 (nI k), jlshl x.2.1 (nI k), (if jlushr (jlshl x.2.2.2.1 (nI k)) (nI k) = x.2.2.2.1 then jlshl x.2.2.1 (nI k) else 0), (if jlushr (jlshl x.2.2.2.1 (nI k)) (nI k) = x.2.2.2.1 then jlshl x.2.2.2.1 (nI k) else -1), -9223372036854775808, 9223372036854775807) (jlshl a (nI k))
      have lim : jlushr (jlshl x.2.2.2.1 (nI k)) (nI k) = x.2.2.2.1 → un x.2.2.2.1 * 2 ^ k < 18446744073709551616 := by
        intro z
        have q := congrArg un z
        rw [un_ush hk, un_shl hk] at q
        have p2 : 0 < 2 ^ k := Nat.two_pow_pos k
        have d : (2 : Nat) ^ k ∣ 18446744073709551616 := by
          rw [show (18446744073709551616 : Nat) = 2 ^ 64 from rfl]
          exact Nat.pow_dvd_pow 2 (by omega)
        have m := Nat.mod_lt (un x.2.2.2.1 * 2 ^ k) (show 0 < 18446744073709551616 by decide)
        have dm := Nat.div_mul_le_self (un x.2.2.2.1 * 2 ^ k % 18446744073709551616) (2 ^ k)
        rw [q] at dm
        omega
      refine gN_u (fun i hi z => ?_) (fun i hi z => ?_) ?_ ?_
      · rw [bt_shl hk, decide_eq_true hi, Bool.true_and] at z
        rw [bt_shl hk, decide_eq_true hi, Bool.true_and]
        by_cases g : i < k
        · rw [decide_eq_true g]; rfl
        · rw [decide_eq_false g, Bool.not_false, Bool.true_and] at z ⊢
          exact hx.1 (i - k) (by omega) z
      · rw [bt_shl hk, decide_eq_true hi, Bool.true_and] at z
        rw [bt_shl hk, bt_shl hk, decide_eq_true hi, Bool.true_and, Bool.true_and]
        by_cases g : i < k
        · rw [decide_eq_true g]; rfl
        · rw [decide_eq_false g, Bool.not_false, Bool.true_and] at z ⊢
          rw [Bool.true_and]
          exact hx.2.1 (i - k) (by omega) z
      · split
        · rename_i z
          have l := lim z
          rw [un_shl hk, un_shl hk]
          have m1 : un x.2.2.1 * 2 ^ k ≤ un a * 2 ^ k := Nat.mul_le_mul_right _ h3
          have m2 : un a * 2 ^ k ≤ un x.2.2.2.1 * 2 ^ k := Nat.mul_le_mul_right _ h4
          rw [Nat.mod_eq_of_lt (by omega), Nat.mod_eq_of_lt (by omega)]
          exact m1
        · exact u_ge _
      · split
        · rename_i z
          have l := lim z
          rw [un_shl hk, un_shl hk]
          have m2 : un a * 2 ^ k ≤ un x.2.2.2.1 * 2 ^ k := Nat.mul_le_mul_right _ h4
          rw [Nat.mod_eq_of_lt (by omega), Nat.mod_eq_of_lt (by omega)]
          exact m2
        · exact u_le _
    · rw [if_neg o8, if_neg o8]
      by_cases o9 : op = 9
      · rw [if_pos o9, if_pos o9]
        show gN (jlushr x.1 (nI k), jlushr x.2.1 (nI k), jlushr x.2.2.1 (nI k), jlushr x.2.2.2.1 (nI k), -9223372036854775808, 9223372036854775807) (jlushr a (nI k))
        refine gN_u (fun i hi z => ?_) (fun i hi z => ?_) ?_ ?_
        · rw [bt_ush hk] at z ⊢
          by_cases g : k + i < 64
          · exact hx.1 _ g z
          · exact bt_ge (by omega)
        · rw [bt_ush hk] at z
          rw [bt_ush hk, bt_ush hk]
          by_cases g : k + i < 64
          · exact hx.2.1 _ g z
          · rw [bt_ge (by omega), bt_ge (by omega)]
        · rw [un_ush hk, un_ush hk]; exact Nat.div_le_div_right h3
        · rw [un_ush hk, un_ush hk]; exact Nat.div_le_div_right h4
      · rw [if_neg o9, if_neg o9]
        show gN (jlshr x.1 (nI k), jlshr x.2.1 (nI k), 0, -1, jlshr x.2.2.2.2.1 (nI k), jlshr x.2.2.2.2.2 (nI k)) (jlshr a (nI k))
        have p2 : (0 : Int) < 2 ^ k := Int.pow_pos (by decide)
        refine ⟨fun i hi z => ?_, fun i hi z => ?_, u_ge _, u_le _, ?_, ?_⟩
        · have z' : bt (jlshr x.1 (nI k)) i = true := z
          show bt (jlshr x.2.1 (nI k)) i = false
          rw [bt_shr hk hi] at z' ⊢
          by_cases g : k + i < 64
          · rw [if_pos g] at z' ⊢; exact hx.1 _ g z'
          · rw [if_neg g] at z' ⊢; exact hx.1 63 (by decide) z'
        · have z' : bt (jlshr x.2.1 (nI k)) i = false := z
          show bt (jlshr a (nI k)) i = bt (jlshr x.1 (nI k)) i
          rw [bt_shr hk hi] at z'
          rw [bt_shr hk hi, bt_shr hk hi]
          by_cases g : k + i < 64
          · rw [if_pos g] at z'; rw [if_pos g, if_pos g]; exact hx.2.1 _ g z'
          · rw [if_neg g] at z'; rw [if_neg g, if_neg g]; exact hx.2.1 63 (by decide) z'
        · show (jlshr x.2.2.2.2.1 (nI k)).toInt ≤ _
          rw [int_shr hk, int_shr hk]
          exact Int.ediv_le_ediv p2 h5
        · show _ ≤ (jlshr x.2.2.2.2.2 (nI k)).toInt
          rw [int_shr hk, int_shr hk]
          exact Int.ediv_le_ediv p2 h6
  · rw [if_neg e]; exact any_gN
end GO
