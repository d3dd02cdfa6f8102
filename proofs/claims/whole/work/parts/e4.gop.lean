/-! PURE: operations, wide and narrow, are sound. -/
def ov (op : Int32) (a b : Int64) : Int64 :=
  if op = 0 then a + b else if op = 1 then a - b else if op = 2 then a * b else if op = 3 then fn_quo a b else if op = 4 then a - fn_quo a b * b else if op = 5 then a &&& b else if op = 6 then a ||| b else if op = 7 then a ^^^ b
  else if op = 11 then 0 - a else if op = 12 then b else if op = 13 then fn_swap a (if b = 2 then 2 else if b = 4 then 4 else 8) else if op = 14 then a &&& (if b = 2 then 65535 else if b = 4 then 4294967295 else -1)
  else if op = 8 then fn_shl a (fn_by b) else if op = 9 then fn_shu a (fn_by b) else fn_shr a (fn_by b)
/-- narrow: of the low 32 bits -/
def ovn (op : Int32) (a b : Int64) : Int64 :=
  if op = 10 then fn_shr a.toInt32.toInt64 (fn_by (b &&& 31)) &&& 4294967295 else ov op (a &&& 4294967295) (if op < 8 then b &&& 4294967295 else if 10 < op then b &&& 4294967295 else b &&& 31) &&& 4294967295
section GP4
variable {x y : fn_N} {u v w a b c d : Int64}
theorem sw_lt : ∀ k, k ≤ 8 → un (fn_swap v k) < 2 ^ (8 * k) := by
  intro k
  induction k with
  | zero => intro _; rw [show fn_swap v 0 = 0 from rfl, un_z]; decide
  | succ k ih =>
    intro hk
    have i1 := ih (by omega)
    show un (jlshl (fn_swap v k) (nI 8) ||| ((v.toUInt64 >>> ((8 * nI k).toInt64.toUInt64 &&& Int64.toUInt64 63)).toInt64 &&& 255)) < _
    rw [un_or, un_shl (by decide)]
    refine Nat.or_lt_two_pow ?_ ?_
    · have m := Nat.mod_le (un (fn_swap v k) * 2 ^ 8) 18446744073709551616
      rw [show 8 * (k + 1) = 8 * k + 8 by omega, Nat.pow_add]
      have : un (fn_swap v k) * 2 ^ 8 < 2 ^ (8 * k) * 2 ^ 8 := Nat.mul_lt_mul_of_pos_right i1 (by decide)
      omega
    · rw [un_and, show un 255 = 255 from by decide]
      have l : un (v.toUInt64 >>> ((8 * nI k).toInt64.toUInt64 &&& Int64.toUInt64 63)).toInt64 &&& 255 ≤ 255 := Nat.and_le_right
      have p : 2 ^ 8 ≤ 2 ^ (8 * (k + 1)) := Nat.pow_le_pow_right (by decide) (by omega)
      omega
theorem gN_swp (hx : gN x a) (hy : gN y b) (he : y.2.1 = 0) : gN (fn_swp x.1 x.2.1 y.1 y.2.1) (fn_swap a (if b = 2 then 2 else if b = 4 then 4 else 8)) := by
  rw [gN_ex hy he]
  unfold fn_swp
  by_cases e2 : y.1 = 2
  · rw [if_pos ⟨he, e2⟩, if_pos e2]
    by_cases n : x.2.1 = 0
    · rw [if_pos n, ← gN_ex hx n]; exact ex_gN
    · rw [if_neg n]
      refine gN_u z_m1 m1_z (u_ge _) ?_
      have := sw_lt (v := a) 2 (by decide)
      rw [show un 65535 = 65535 from by decide]
      omega
  · rw [if_neg (fun z => e2 z.2), if_neg e2]
    by_cases e4 : y.1 = 4
    · rw [if_pos ⟨he, e4⟩, if_pos e4]
      by_cases n : x.2.1 = 0
      · rw [if_pos n, ← gN_ex hx n]; exact ex_gN
      · rw [if_neg n]
        refine gN_u z_m1 m1_z (u_ge _) ?_
        have := sw_lt (v := a) 4 (by decide)
        rw [show un 4294967295 = 4294967295 from by decide]
        omega
    · rw [if_neg (fun z => e4 z.2), if_neg e4]
      by_cases n : x.2.1 = 0
      · rw [if_pos n, ← gN_ex hx n]; exact ex_gN
      · rw [if_neg n]; exact any_gN
theorem and_ones {k : Nat} (hb : un b = 2 ^ k - 1) (h : un a ≤ un b) : a &&& b = a := by
  apply un_inj
  rw [un_and, hb, Nat.and_two_pow_sub_one_eq_mod]
  have := Nat.two_pow_pos k
  exact Nat.mod_eq_of_lt (by omega)
theorem gN_cut (hx : gN x a) {k : Nat} (hb : un b = 2 ^ k - 1) : gN (fn_cut x.1 x.2.1 x.2.2.1 x.2.2.2.1 x.2.2.2.2.1 x.2.2.2.2.2 b) (a &&& b) := by
  unfold fn_cut
  by_cases g : fn_lt b x.2.2.2.1
  · rw [if_pos g]
    exact gN_and (x := x) (y := fn_ex b) (a := a) (b := b) hx ex_gN
  · rw [if_neg g]
    rw [fn_lt_un] at g
    have h4 := hx.2.2.2.1
    rw [and_ones hb (by omega)]
    exact hx
theorem gN_raw (hx : gN x a) (hy : gN y b) {op : Int32} (he : (op = 13 ∨ op = 14) → y.2.1 = 0) : gN (fn_rawT x y op) (ov op a b) := by
  unfold fn_rawT fn_raw ov
  by_cases o0 : op = 0
  · rw [if_pos o0, if_pos o0]; exact gN_add hx hy
  rw [if_neg o0, if_neg o0]
  by_cases o1 : op = 1
  · rw [if_pos o1, if_pos o1]; exact gN_sub hx hy
  rw [if_neg o1, if_neg o1]
  by_cases o2 : op = 2
  · rw [if_pos o2, if_pos o2]; exact gN_mul hx hy
  rw [if_neg o2, if_neg o2]
  by_cases o3 : op = 3
  · rw [if_pos o3, if_pos o3]; exact gN_div hx hy
  rw [if_neg o3, if_neg o3]
  by_cases o4 : op = 4
  · rw [if_pos o4, if_pos o4]; exact gN_rest hx hy
  rw [if_neg o4, if_neg o4]
  by_cases o5 : op = 5
  · rw [if_pos o5, if_pos o5]; exact gN_and hx hy
  rw [if_neg o5, if_neg o5]
  by_cases o6 : op = 6
  · rw [if_pos o6, if_pos o6]; exact gN_or hx hy
  rw [if_neg o6, if_neg o6]
  by_cases o7 : op = 7
  · rw [if_pos o7, if_pos o7]; exact gN_xor hx hy
  rw [if_neg o7, if_neg o7]
  by_cases o11 : op = 11
  · rw [if_pos o11, if_pos o11]; exact gN_sub (x := fn_ex 0) ex_gN hx
  rw [if_neg o11, if_neg o11]
  by_cases o12 : op = 12
  · rw [if_pos o12, if_pos o12]; exact hy
  rw [if_neg o12, if_neg o12]
  by_cases o13 : op = 13
  · rw [if_pos o13, if_pos o13]; exact gN_swp hx hy (he (Or.inl o13))
  rw [if_neg o13, if_neg o13]
  by_cases o14 : op = 14
  · have e := he (Or.inr o14)
    rw [if_pos o14, if_pos o14, gN_ex hy e]
    by_cases e2 : y.1 = 2
    · rw [if_pos ⟨e, e2⟩, if_pos e2]; exact gN_cut (k := 16) hx (by decide)
    rw [if_neg (fun z => e2 z.2), if_neg e2]
    by_cases e4 : y.1 = 4
    · rw [if_pos ⟨e, e4⟩, if_pos e4]; exact gN_cut (k := 32) hx (by decide)
    rw [if_neg (fun z => e4 z.2), if_neg e4]; exact gN_cut (k := 64) hx (by decide)
  rw [if_neg o14, if_neg o14]
  exact gN_shift hx hy
/-! narrow -/
theorem un_low : un (a &&& 4294967295) = un a % 4294967296 := by
  rw [un_and, show un 4294967295 = 2 ^ 32 - 1 from by decide, Nat.and_two_pow_sub_one_eq_mod]
theorem low_int : (a &&& 4294967295).toInt = (un a % 4294967296 : Nat) := by
  have e := int_un (a &&& 4294967295)
  rw [un_low] at e
  have l := Nat.mod_lt (un a) (show 0 < 4294967296 by decide)
  rw [if_pos (by omega)] at e
  exact e
theorem low_id (h : un a ≤ 4294967295) : a &&& 4294967295 = a := and_ones (k := 32) (by decide) (by rw [show un 4294967295 = 4294967295 from by decide]; exact h)
theorem mlow : ∀ i, i < 64 → bt 4294967295 i = decide (i < 32) := by decide
theorem gN_nar0 (hx : gN x a) : gN (fn_nar0 x.1 x.2.1 x.2.2.1 x.2.2.2.1) (a &&& 4294967295) := by
  have h3 := hx.2.2.1
  have h4 := hx.2.2.2.1
  have la := un_low (a := a)
  have l3 := un_low (a := x.2.2.1)
  have l4 := un_low (a := x.2.2.2.1)
  unfold fn_nar0
  have hi : (x.2.2.1.toUInt64 >>> ((32 : Int32).toInt64.toUInt64 &&& Int64.toUInt64 63)).toInt64 = (x.2.2.2.1.toUInt64 >>> ((32 : Int32).toInt64.toUInt64 &&& Int64.toUInt64 63)).toInt64 → un x.2.2.1 / 4294967296 = un x.2.2.2.1 / 4294967296 := by
    intro z
    have q := congrArg un (show jlushr x.2.2.1 (nI 32) = jlushr x.2.2.2.1 (nI 32) from z)
    rw [un_ush (by decide), un_ush (by decide)] at q
    exact q
  refine ⟨fun i hi2 z => ?_, fun i hi2 z => ?_, ?_, ?_, ?_, ?_⟩
  · have z' : bt (x.1 &&& 4294967295) i = true := z
    show bt (x.2.1 &&& 4294967295) i = false
    rw [bt_and] at z' ⊢
    have q : bt x.1 i = true := by cases q : bt x.1 i <;> rw [q] at z' <;> simp at z' <;> rfl
    rw [hx.1 i hi2 q, Bool.false_and]
  · have z' : bt (x.2.1 &&& 4294967295) i = false := z
    show bt (a &&& 4294967295) i = bt (x.1 &&& 4294967295) i
    rw [bt_and, mlow i hi2] at z'
    rw [bt_and, bt_and, mlow i hi2]
    by_cases g : i < 32
    · rw [decide_eq_true g, Bool.and_true] at z'
      rw [hx.2.1 i hi2 z']
    · rw [decide_eq_false g, Bool.and_false, Bool.and_false]
  · show un (if _ then _ else _) ≤ _
    split
    · rename_i z
      have := hi z
      rw [la, l3]
      omega
    · exact u_ge _
  · show _ ≤ un (if _ then _ else _)
    split
    · rename_i z
      have := hi z
      rw [la, l4]
      omega
    · rw [la, show un 4294967295 = 4294967295 from by decide]
      omega
  · show (0 : Int64).toInt ≤ _
    rw [low_int, show (0 : Int64).toInt = 0 from by decide]
    omega
  · show _ ≤ (4294967295 : Int64).toInt
    rw [low_int, show (4294967295 : Int64).toInt = 4294967295 from by decide]
    have := Nat.mod_lt (un a) (show 0 < 4294967296 by decide)
    omega
theorem gN_nar (hx : gN x a) : gN (fn_narT x) (a &&& 4294967295) := by
  unfold fn_narT fn_nar
  by_cases g : fn_lt 4294967295 x.2.2.2.1
  · rw [if_pos g]
    obtain ⟨z, q1, q2⟩ := gN_it (gN_nar0 hx) 3
    rw [q1]
    exact q2
  · rw [if_neg g]
    rw [fn_lt_un, show un 4294967295 = 4294967295 from by decide] at g
    have h4 := hx.2.2.2.1
    rw [low_id (by omega)]
    exact hx
theorem and_31 : (b &&& 4294967295) &&& 31 = b &&& 31 := bt_ext (fun i hi => by
  have m : ∀ i, i < 64 → (bt 4294967295 i && bt 31 i) = bt 31 i := by decide
  rw [bt_and, bt_and, bt_and, Bool.and_assoc, m i hi])
theorem t32_low (h : un (a &&& 4294967295) ≤ 2147483647) : a.toInt32.toInt64 = a &&& 4294967295 := by
  have b31 : bt a 31 = false := by
    have e : bt (a &&& 4294967295) 31 = bt a 31 := by rw [bt_and, mlow 31 (by decide)]; simp
    rw [← e, un_bt]
    exact Nat.testBit_lt_two_pow (by omega)
  refine bt_ext (fun i hi => ?_)
  show (a.toInt32.toInt64).toBitVec.getLsbD i = _
  rw [Int32.toBitVec_toInt64, BitVec.getLsbD_signExtend, decide_eq_true hi, Bool.true_and, bt_and, mlow i hi]
  by_cases g : i < 32
  · rw [if_pos g, bt_t32 g, decide_eq_true g, Bool.and_true]
  · rw [if_neg g, BitVec.msb_eq_getLsbD_last, bt_t32 (by decide), b31, decide_eq_false g, Bool.and_false]
theorem shr_shu {k : Int32} (h : un a < 9223372036854775808) (hk : ∃ j, j < 64 ∧ k = nI j) : fn_shr a k = fn_shu a k := by
  obtain ⟨j, hj, e⟩ := hk
  rw [e]
  show jlshr a (nI j) = jlushr a (nI j)
  refine bt_ext (fun i hi => ?_)
  have z63 : bt a 63 = false := by rw [un_bt]; exact Nat.testBit_lt_two_pow (by omega)
  rw [bt_shr hj hi, bt_ush hj]
  by_cases g : j + i < 64
  · rw [if_pos g]
  · rw [if_neg g, z63, bt_ge (by omega)]
theorem raw_any {op : Int32} (o : op = 8 ∨ op = 9 ∨ op = 10) (h : ¬ y.2.1 = 0) : fn_rawT x y op = fn_any := by
  unfold fn_rawT fn_raw fn_shift
  rcases o with o | o | o <;> rw [o] <;> simp [h]
theorem gN_op (hx : gN x a) (hy : gN y b) {op nar : Int32} (he : (op = 13 ∨ op = 14) → y.2.1 = 0 ∧ nar = 0) : gN (fn_op op nar x y) (if nar = 0 then ov op a b else ovn op a b) := by
  unfold fn_op
  by_cases n : nar = 0
  · rw [if_pos n, if_pos n]
    exact gN_fin (gN_raw hx hy (fun z => (he z).1))
  rw [if_neg n, if_neg n]
  have n13 : ¬ (op = 13 ∨ op = 14) := fun z => n (he z).2
  have hx1 := gN_nar hx
  have hy1 := gN_nar hy
  unfold fn_opk ovn
  by_cases o10 : op = 10
  · rw [if_pos o10, if_pos o10]
    by_cases g : fn_lt 2147483647 (fn_narT x).2.2.2.1
    · rw [if_pos g]; exact gN_nar any_gN
    · rw [if_neg g]
      rw [fn_lt_un, show un 2147483647 = 2147483647 from by decide] at g
      have h4 := hx1.2.2.2.1
      have la : un (a &&& 4294967295) ≤ 2147483647 := by omega
      rw [t32_low la, shr_shu (by omega) (by_63 _)]
      refine gN_nar (gN_fin ?_)
      unfold fn_by5
      rw [o10, if_neg (by decide), if_neg (by decide)]
      by_cases e : (fn_narT y).2.1 = 0
      · rw [if_pos e, ← gN_ex hy1 e, and_31]
        have := gN_raw (op := 9) hx1 (ex_gN (v := b &&& 31)) (fun z => absurd z (by decide))
        exact this
      · rw [if_neg e, raw_any (Or.inr (Or.inl rfl)) e]; exact any_gN
  · rw [if_neg o10, if_neg o10]
    refine gN_nar (gN_fin ?_)
    unfold fn_by5
    by_cases o8 : op < 8
    · rw [if_pos o8, if_pos o8]
      exact gN_raw hx1 hy1 (fun z => absurd z n13)
    rw [if_neg o8, if_neg o8]
    by_cases g10 : 10 < op
    · rw [if_pos g10, if_pos g10]
      exact gN_raw hx1 hy1 (fun z => absurd z n13)
    rw [if_neg g10, if_neg g10]
    by_cases e : (fn_narT y).2.1 = 0
    · rw [if_pos e, ← gN_ex hy1 e, and_31]
      exact gN_raw hx1 ex_gN (fun z => absurd z n13)
    · rw [if_neg e]
      have o89 : op = 8 ∨ op = 9 ∨ op = 10 := by
        have t := tc_nI (x := op) (fun z => o8 (by
          rw [Int32.lt_iff_toInt_lt] at z ⊢
          rw [show (0 : Int32).toInt = 0 from rfl] at z
          rw [show (8 : Int32).toInt = 8 from rfl]
          omega))
        rw [Int32.lt_iff_toInt_lt, show (8 : Int32).toInt = 8 from rfl] at o8
        rw [Int32.lt_iff_toInt_lt, show (10 : Int32).toInt = 10 from rfl] at g10
        have e1 : op.toNatClampNeg = op.toInt.toNat := rfl
        have : op.toNatClampNeg = 8 ∨ op.toNatClampNeg = 9 ∨ op.toNatClampNeg = 10 := by omega
        rcases this with r | r | r <;> rw [r] at t
        · exact Or.inl t
        · exact Or.inr (Or.inl t)
        · exact Or.inr (Or.inr t)
      rw [raw_any o89 e]
      exact any_gN
end GP4
