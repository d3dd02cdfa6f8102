/-! PURE: longs as naturals and as bits. -/
def un (x : Int64) : Nat := x.toBitVec.toNat
def bt (x : Int64) (i : Nat) : Bool := x.toBitVec.getLsbD i
section UN
variable {x y : Int64} {i k : Nat}
theorem un_lt (x : Int64) : un x < 18446744073709551616 := x.toBitVec.isLt
theorem un_inj (h : un x = un y) : x = y := Int64.toBitVec_inj.mp (BitVec.eq_of_toNat_eq h)
theorem bt_ext (h : ∀ i, i < 64 → bt x i = bt y i) : x = y := Int64.toBitVec_inj.mp (BitVec.eq_of_getLsbD_eq (fun i hi => h i hi))
theorem bt_and : bt (x &&& y) i = (bt x i && bt y i) := by unfold bt; rw [Int64.toBitVec_and]; exact BitVec.getLsbD_and ..
theorem bt_or : bt (x ||| y) i = (bt x i || bt y i) := by unfold bt; rw [Int64.toBitVec_or]; exact BitVec.getLsbD_or ..
theorem bt_xor : bt (x ^^^ y) i = (bt x i ^^ bt y i) := by unfold bt; rw [Int64.toBitVec_xor]; exact BitVec.getLsbD_xor ..
theorem bt_ge (h : 64 ≤ i) : bt x i = false := BitVec.getLsbD_of_ge _ _ h
theorem bt_0 : bt 0 i = false := by unfold bt; exact BitVec.getLsbD_zero ..
theorem bt_m1 (h : i < 64) : bt (-1) i = true := by
  unfold bt
  rw [show (-1 : Int64).toBitVec = BitVec.allOnes 64 from rfl, BitVec.getLsbD_allOnes]
  exact decide_eq_true h
theorem bt_not (h : i < 64) : bt (x ^^^ -1) i = !bt x i := by rw [bt_xor, bt_m1 h, Bool.xor_true]
theorem bt_top : bt (-9223372036854775808) i = decide (i = 63) := by
  unfold bt
  rw [show (-9223372036854775808 : Int64).toBitVec = BitVec.twoPow 64 63 from rfl, BitVec.getLsbD_twoPow]
  by_cases h : i = 63 <;> simp [h]
  omega
theorem nat_top {n : Nat} (h : n < 18446744073709551616) : n ^^^ 9223372036854775808 = (n + 9223372036854775808) % 18446744073709551616 := by
  apply Nat.eq_of_testBit_eq
  intro i
  rw [show (18446744073709551616 : Nat) = 2 ^ 64 from rfl, Nat.testBit_mod_two_pow, show (9223372036854775808 : Nat) = 2 ^ 63 from rfl, Nat.testBit_xor, Nat.testBit_two_pow, Nat.add_comm]
  rcases Nat.lt_trichotomy i 63 with g | g | g
  · rw [Nat.testBit_two_pow_add_gt g]
    have e : ¬ 63 = i := by omega
    simp [e]
    intro _
    omega
  · subst g
    rw [Nat.testBit_two_pow_add_eq]
    simp
  · have e1 : ¬ 63 = i := by omega
    have e2 : ¬ i < 64 := by omega
    have e3 : n.testBit i = false := Nat.testBit_lt_two_pow (Nat.lt_of_lt_of_le h (Nat.pow_le_pow_right (n := 2) (i := 64) (j := i) (by decide) (by omega)))
    simp [e1, e2, e3]
theorem un_top : un (x ^^^ -9223372036854775808) = (un x + 9223372036854775808) % 18446744073709551616 := by
  unfold un
  rw [Int64.toBitVec_xor, BitVec.toNat_xor]
  exact nat_top x.toBitVec.isLt
theorem add_top : x + -9223372036854775808 = x ^^^ -9223372036854775808 := by
  apply un_inj
  rw [un_top]
  unfold un
  rw [Int64.toBitVec_add, BitVec.toNat_add]
  rfl
theorem int_top : (x ^^^ -9223372036854775808).toInt = (un x : Int) - 9223372036854775808 := by
  have h : (x ^^^ -9223372036854775808).toInt = (x ^^^ -9223372036854775808).toBitVec.toInt := rfl
  have g := un_top (x := x)
  have l := un_lt x
  rw [h, BitVec.toInt_eq_toNat_cond]
  show (if 2 * un (x ^^^ -9223372036854775808) < 2 ^ 64 then (un (x ^^^ -9223372036854775808) : Int) else (un (x ^^^ -9223372036854775808) : Int) - ((2 ^ 64 : Nat) : Int)) = _
  split <;> omega
theorem fn_lt_un : fn_lt x y ↔ un x < un y := by
  unfold fn_lt
  rw [Int64.lt_iff_toInt_lt, int_top, int_top]
  omega
theorem fn_lt_a : x + -9223372036854775808 < y + -9223372036854775808 ↔ fn_lt x y := by rw [add_top, add_top]
theorem fn_eq_of (h : ¬ fn_lt x y) (g : ¬ fn_lt y x) : x = y := un_inj (by rw [fn_lt_un] at h g; omega)
theorem fn_min_c : fn_min x y = if fn_lt x y then x else y := by
  unfold fn_min
  by_cases h : fn_lt y x
  · rw [if_pos h, if_neg (by rw [fn_lt_un] at h ⊢; omega)]
  · rw [if_neg h]
    by_cases g : fn_lt x y
    · rw [if_pos g]
    · rw [if_neg g]
      exact fn_eq_of g h
theorem int_un (x : Int64) : x.toInt = if un x < 9223372036854775808 then (un x : Int) else (un x : Int) - 18446744073709551616 := by
  have h : x.toInt = x.toBitVec.toInt := rfl
  rw [h, BitVec.toInt_eq_toNat_cond]
  show (if 2 * un x < 2 ^ 64 then (un x : Int) else (un x : Int) - ((2 ^ 64 : Nat) : Int)) = _
  by_cases g : un x < 9223372036854775808
  · rw [if_pos g, if_pos (by omega)]
  · rw [if_neg g, if_neg (by omega)]
    rfl
theorem neg_un : x < 0 ↔ 9223372036854775808 ≤ un x := by
  rw [Int64.lt_iff_toInt_lt, int_un]
  show (if un x < 9223372036854775808 then (un x : Int) else (un x : Int) - 18446744073709551616) < 0 ↔ _
  have l := un_lt x
  split <;> omega
theorem neg_bt : x < 0 ↔ bt x 63 = true := by
  rw [neg_un]
  unfold bt un
  rw [BitVec.getLsbD, Nat.testBit_eq_decide_div_mod_eq]
  have l := x.toBitVec.isLt
  simp only [decide_eq_true_eq]
  show _ ≤ x.toBitVec.toNat ↔ x.toBitVec.toNat / 9223372036854775808 % 2 = 1
  omega
theorem neg_xor : (x ^^^ y < 0) ↔ ¬ (x < 0 ↔ y < 0) := by
  rw [neg_bt, neg_bt, neg_bt, bt_xor]
  cases bt x 63 <;> cases bt y 63 <;> decide
end UN
/-- how far a shift goes -/
theorem sh_amt {k : Nat} (h : k < 64) : ((nI k).toInt64.toUInt64 &&& Int64.toUInt64 63).toBitVec.toNat % 64 = k := by
  have : ∀ k, k < 64 → ((nI k).toInt64.toUInt64 &&& Int64.toUInt64 63).toBitVec.toNat % 64 = k := by decide
  exact this k h
theorem bt_ush {x : Int64} {k i : Nat} (h : k < 64) : bt (jlushr x (nI k)) i = bt x (k + i) := by
  unfold jlushr bt
  rw [UInt64.toBitVec_toInt64, UInt64.toBitVec_shiftRight]
  have e := sh_amt h
  rw [BitVec.ushiftRight_eq', BitVec.toNat_umod]
  show (x.toUInt64.toBitVec >>> (((nI k).toInt64.toUInt64 &&& Int64.toUInt64 63).toBitVec.toNat % 64)).getLsbD i = _
  rw [e, BitVec.getLsbD_ushiftRight]
  rfl
theorem sh_am2 {k : Nat} (h : k < 64) : ((nI k).toInt64 &&& 63).toBitVec.smod 64 = BitVec.ofNat 64 k := by
  have : ∀ k, k < 64 → ((nI k).toInt64 &&& 63).toBitVec.smod 64 = BitVec.ofNat 64 k := by decide
  exact this k h
theorem bt_shl {x : Int64} {k i : Nat} (h : k < 64) : bt (jlshl x (nI k)) i = (decide (i < 64) && (!decide (i < k) && bt x (i - k))) := by
  unfold jlshl bt
  rw [Int64.toBitVec_shiftLeft, sh_am2 h, BitVec.shiftLeft_eq', BitVec.toNat_ofNat, BitVec.getLsbD_shiftLeft, Nat.mod_eq_of_lt (show k < 2 ^ 64 by omega), Bool.and_assoc]
theorem bt_shr {x : Int64} {k i : Nat} (h : k < 64) (hi : i < 64) : bt (jlshr x (nI k)) i = if k + i < 64 then bt x (k + i) else bt x 63 := by
  unfold jlshr bt
  rw [Int64.toBitVec_shiftRight, sh_am2 h, BitVec.sshiftRight_eq', BitVec.toNat_ofNat, BitVec.getLsbD_sshiftRight, Nat.mod_eq_of_lt (show k < 2 ^ 64 by omega)]
  have e : decide (64 ≤ i) = false := decide_eq_false (by omega)
  rw [e]
  by_cases g : k + i < 64
  · simp [g]
  · simp [g, BitVec.msb_eq_getLsbD_last]
