/-! PURE: sums and differences of numbers. -/
section GA
variable {x y : fn_N} {u v w a b c d : Int64}
theorem add_bit {i : Nat} (hi : i < 64) : bt (a + b) i = (bt a i ^^ (bt b i ^^ decide (2 ^ i ≤ un a % 2 ^ i + un b % 2 ^ i))) := by
  unfold bt
  rw [Int64.toBitVec_add, BitVec.getLsbD_add hi]
  unfold BitVec.carry
  rfl
theorem mod_sub_le (h : ∀ i, i < 64 → bt a i = true → bt b i = true) (k : Nat) : un a % 2 ^ k ≤ un b % 2 ^ k := by
  have e : (un a % 2 ^ k) &&& (un b % 2 ^ k) = un a % 2 ^ k := by
    apply Nat.eq_of_testBit_eq
    intro i
    rw [Nat.testBit_and, Nat.testBit_mod_two_pow, Nat.testBit_mod_two_pow, ← un_bt, ← un_bt]
    by_cases hk : i < k
    · rw [decide_eq_true hk, Bool.true_and, Bool.true_and]
      by_cases hi : i < 64
      · by_cases g : bt a i = true
        · rw [g, h i hi g]; rfl
        · rw [Bool.not_eq_true] at g; rw [g]; rfl
      · rw [bt_ge (by omega)]; rfl
    · rw [decide_eq_false hk]; rfl
  rw [← e]
  exact Nat.and_le_right
theorem or_add (h : ∀ i, i < 64 → bt a i = true → bt b i = false) : a ||| b = a + b := by
  apply Int64.toBitVec_inj.mp
  rw [Int64.toBitVec_or, Int64.toBitVec_add]
  refine (BitVec.add_eq_or_of_and_eq_zero _ _ ?_).symm
  apply BitVec.eq_of_getLsbD_eq
  intro i hi
  rw [BitVec.getLsbD_and, BitVec.getLsbD_zero]
  by_cases g : bt a i = true
  · rw [show b.toBitVec.getLsbD i = false from h i hi g, Bool.and_false]
  · rw [Bool.not_eq_true] at g
    rw [show a.toBitVec.getLsbD i = false from g, Bool.false_and]
theorem sub_bit {i : Nat} (hi : i < 64) : bt (a - b) i = (bt a i ^^ (bt b i ^^ decide (un a % 2 ^ i < un b % 2 ^ i))) := by
  have e : (a - b) + b = a := Int64.sub_add_cancel a b
  have q := add_bit (a := a - b) (b := b) hi
  rw [e] at q
  have ea : un a % 2 ^ i = (un (a - b) % 2 ^ i + un b % 2 ^ i) % 2 ^ i := by
    have u1 := un_add (x := a - b) (y := b)
    rw [e] at u1
    have dv : (2 : Nat) ^ i ∣ 18446744073709551616 := by
      rw [show (18446744073709551616 : Nat) = 2 ^ 64 from rfl]
      exact Nat.pow_dvd_pow 2 (by omega)
    rw [u1, Nat.mod_mod_of_dvd _ dv, Nat.add_mod]
  have p2 : 0 < 2 ^ i := Nat.two_pow_pos i
  have l1 := Nat.mod_lt (un (a - b)) p2
  have l2 := Nat.mod_lt (un b) p2
  have cc : decide (2 ^ i ≤ un (a - b) % 2 ^ i + un b % 2 ^ i) = decide (un a % 2 ^ i < un b % 2 ^ i) := by
    by_cases g : 2 ^ i ≤ un (a - b) % 2 ^ i + un b % 2 ^ i
    · have : (un (a - b) % 2 ^ i + un b % 2 ^ i) % 2 ^ i = un (a - b) % 2 ^ i + un b % 2 ^ i - 2 ^ i := by
        rw [Nat.mod_eq_sub_mod g, Nat.mod_eq_of_lt (by omega)]
      rw [decide_eq_true g, decide_eq_true (by omega)]
    · have : (un (a - b) % 2 ^ i + un b % 2 ^ i) % 2 ^ i = un (a - b) % 2 ^ i + un b % 2 ^ i := Nat.mod_eq_of_lt (by omega)
      rw [decide_eq_false g, decide_eq_false (by omega)]
  rw [cc] at q
  rw [q]
  cases bt (a - b) i <;> cases bt b i <;> cases decide (un a % 2 ^ i < un b % 2 ^ i) <;> rfl
/-- of a number: bits that are surely 1, bits that may be 1 -/
theorem gN_b1 (h : gN x v) : ∀ i, i < 64 → bt x.1 i = true → bt v i = true := fun i hi g => by rw [h.2.1 i hi (h.1 i hi g)]; exact g
theorem gN_b2 (h : gN x v) : ∀ i, i < 64 → bt v i = true → bt (x.1 ||| x.2.1) i = true := fun i hi g => by
  rw [bt_or]
  by_cases m : bt x.2.1 i = true
  · rw [m, Bool.or_true]
  · rw [Bool.not_eq_true] at m
    rw [← h.2.1 i hi m, g]; rfl
theorem add_bits (hx : gN x a) (hy : gN y b) : ∀ i, i < 64 → bt (fn_au x.1 x.2.1 y.1 y.2.1) i = false → bt (a + b) i = bt (x.1 + y.1) i := by
  intro i hi h
  unfold fn_au at h
  rw [bt_or, bt_or] at h
  have ho : bt y.2.1 i = false := by cases q : bt y.2.1 i <;> rw [q] at h <;> simp at h <;> rfl
  have hn : bt x.2.1 i = false := by cases q : bt x.2.1 i <;> rw [q] at h <;> simp at h <;> rfl
  rw [ho, hn, Bool.or_false, Bool.or_false, bt_xor] at h
  have es : x.2.1 + y.2.1 + (x.1 + y.1) = (x.1 ||| x.2.1) + (y.1 ||| y.2.1) := by
    rw [or_add hx.1, or_add hy.1]
    ac_rfl
  rw [es, add_bit hi, add_bit hi, bt_or, bt_or, hn, ho, Bool.or_false, Bool.or_false] at h
  rw [add_bit hi, add_bit hi, hx.2.1 i hi hn, hy.2.1 i hi ho]
  have m1 := mod_sub_le (gN_b1 hx) i
  have m2 := mod_sub_le (gN_b2 hx) i
  have m3 := mod_sub_le (gN_b1 hy) i
  have m4 := mod_sub_le (gN_b2 hy) i
  have ce : decide (2 ^ i ≤ un (x.1 ||| x.2.1) % 2 ^ i + un (y.1 ||| y.2.1) % 2 ^ i) = decide (2 ^ i ≤ un x.1 % 2 ^ i + un y.1 % 2 ^ i) := by
    cases p : bt x.1 i <;> cases q : bt y.1 i <;> cases r : decide (2 ^ i ≤ un (x.1 ||| x.2.1) % 2 ^ i + un (y.1 ||| y.2.1) % 2 ^ i) <;> cases s : decide (2 ^ i ≤ un x.1 % 2 ^ i + un y.1 % 2 ^ i) <;> rw [p, q, r, s] at h <;> first | rfl | (exact absurd h (by decide))
  have cm : decide (2 ^ i ≤ un a % 2 ^ i + un b % 2 ^ i) = decide (2 ^ i ≤ un x.1 % 2 ^ i + un y.1 % 2 ^ i) := by
    by_cases g : 2 ^ i ≤ un x.1 % 2 ^ i + un y.1 % 2 ^ i
    · rw [decide_eq_true g, decide_eq_true (by omega)]
    · rw [decide_eq_false g]
      rw [decide_eq_false g] at ce
      have := of_decide_eq_false ce
      rw [decide_eq_false (by omega)]
  rw [cm]
/-- bits under a mask -/
theorem msk_1 {m s : Int64} : ∀ i, i < 64 → bt (s &&& (m ^^^ -1)) i = true → bt m i = false := fun i hi g => by
  rw [bt_and, bt_not hi] at g
  cases q : bt m i
  · rfl
  · rw [q] at g; simp at g
theorem msk_2 {m s : Int64} (h : ∀ i, i < 64 → bt m i = false → bt v i = bt s i) : ∀ i, i < 64 → bt m i = false → bt v i = bt (s &&& (m ^^^ -1)) i := fun i hi g => by
  rw [bt_and, bt_not hi, g, Bool.not_false, Bool.and_true]
  exact h i hi g
/-- a sum that does not leave the longs -/
theorem ov_add (h : ¬ (a ^^^ (a + b)) &&& (b ^^^ (a + b)) < 0) : (a + b).toInt = a.toInt + b.toInt := by
  rw [neg_bt, bt_and, bt_xor, bt_xor] at h
  have na := neg_bt (x := a)
  have nb := neg_bt (x := b)
  have nc := neg_bt (x := a + b)
  rw [neg_un] at na nb nc
  have e1 := int_un a
  have e2 := int_un b
  have e3 := int_un (a + b)
  have u1 := un_add (x := a) (y := b)
  have l1 := un_lt a
  have l2 := un_lt b
  cases p : bt a 63 <;> cases q : bt b 63 <;> cases r : bt (a + b) 63 <;> rw [p, q, r] at h <;> rw [p] at na <;> rw [q] at nb <;> rw [r] at nc <;> simp at h na nb nc <;> (split at e1 <;> split at e2 <;> split at e3 <;> omega)
theorem in_add (h1 : -9223372036854775808 ≤ a.toInt + b.toInt) (h2 : a.toInt + b.toInt ≤ 9223372036854775807) : (a + b).toInt = a.toInt + b.toInt := by
  have e1 := int_un a
  have e2 := int_un b
  have e3 := int_un (a + b)
  have u1 := un_add (x := a) (y := b)
  have l1 := un_lt a
  have l2 := un_lt b
  split at e1 <;> split at e2 <;> split at e3 <;> omega
theorem ov_sub (h : ¬ (a ^^^ b) &&& (a ^^^ (a - b)) < 0) : (a - b).toInt = a.toInt - b.toInt := by
  rw [neg_bt, bt_and, bt_xor, bt_xor] at h
  have na := neg_bt (x := a)
  have nb := neg_bt (x := b)
  have nc := neg_bt (x := a - b)
  rw [neg_un] at na nb nc
  have e1 := int_un a
  have e2 := int_un b
  have e3 := int_un (a - b)
  have u1 := un_sub (x := a) (y := b)
  have l1 := un_lt a
  have l2 := un_lt b
  cases p : bt a 63 <;> cases q : bt b 63 <;> cases r : bt (a - b) 63 <;> rw [p, q, r] at h <;> rw [p] at na <;> rw [q] at nb <;> rw [r] at nc <;> simp at h na nb nc <;> (split at e1 <;> split at e2 <;> split at e3 <;> omega)
theorem in_sub (h1 : -9223372036854775808 ≤ a.toInt - b.toInt) (h2 : a.toInt - b.toInt ≤ 9223372036854775807) : (a - b).toInt = a.toInt - b.toInt := by
  have e1 := int_un a
  have e2 := int_un b
  have e3 := int_un (a - b)
  have u1 := un_sub (x := a) (y := b)
  have l1 := un_lt a
  have l2 := un_lt b
  split at e1 <;> split at e2 <;> split at e3 <;> omega
theorem gN_add (hx : gN x a) (hy : gN y b) : gN (fn_add x.1 x.2.1 x.2.2.1 x.2.2.2.1 x.2.2.2.2.1 x.2.2.2.2.2 y.1 y.2.1 y.2.2.1 y.2.2.2.1 y.2.2.2.2.1 y.2.2.2.2.2) (a + b) := by
  have h3 := hx.2.2.1
  have h4 := hx.2.2.2.1
  have h5 := hx.2.2.2.2.1
  have h6 := hx.2.2.2.2.2
  have g3 := hy.2.2.1
  have g4 := hy.2.2.2.1
  have g5 := hy.2.2.2.2.1
  have g6 := hy.2.2.2.2.2
  have u0 := un_add (x := a) (y := b)
  have la := un_lt a
  have lb := un_lt b
  have bs := int_b (a + b)
  refine ⟨msk_1, msk_2 (add_bits hx hy), ?_, ?_, ?_, ?_⟩
  · show un (if fn_lt (x.2.2.2.1 + y.2.2.2.1) x.2.2.2.1 then 0 else x.2.2.1 + y.2.2.1) ≤ un (a + b)
    have u1 := un_add (x := x.2.2.1) (y := y.2.2.1)
    have u2 := un_add (x := x.2.2.2.1) (y := y.2.2.2.1)
    have l1 := un_lt x.2.2.2.1
    have l2 := un_lt y.2.2.2.1
    split
    · exact u_ge _
    · rename_i g
      rw [fn_lt_un] at g
      omega
  · show un (a + b) ≤ un (if fn_lt (x.2.2.2.1 + y.2.2.2.1) x.2.2.2.1 then -1 else x.2.2.2.1 + y.2.2.2.1)
    have u2 := un_add (x := x.2.2.2.1) (y := y.2.2.2.1)
    have l1 := un_lt x.2.2.2.1
    have l2 := un_lt y.2.2.2.1
    split
    · exact u_le _
    · rename_i g
      rw [fn_lt_un] at g
      omega
  · show (if (x.2.2.2.2.1 ^^^ (x.2.2.2.2.1 + y.2.2.2.2.1)) &&& (y.2.2.2.2.1 ^^^ (x.2.2.2.2.1 + y.2.2.2.2.1)) < 0 then -9223372036854775808 else if (x.2.2.2.2.2 ^^^ (x.2.2.2.2.2 + y.2.2.2.2.2)) &&& (y.2.2.2.2.2 ^^^ (x.2.2.2.2.2 + y.2.2.2.2.2)) < 0 then -9223372036854775808 else x.2.2.2.2.1 + y.2.2.2.2.1).toInt ≤ _
    split
    · rw [lo_s]; exact bs.1
    · rename_i o1
      split
      · rw [lo_s]; exact bs.1
      · rename_i o2
        have e1 := ov_add o1
        have e2 := ov_add o2
        have b1' := int_b (x.2.2.2.2.1 + y.2.2.2.2.1)
        have b2' := int_b (x.2.2.2.2.2 + y.2.2.2.2.2)
        have e3 := in_add (a := a) (b := b) (by omega) (by omega)
        omega
  · show _ ≤ (if (x.2.2.2.2.1 ^^^ (x.2.2.2.2.1 + y.2.2.2.2.1)) &&& (y.2.2.2.2.1 ^^^ (x.2.2.2.2.1 + y.2.2.2.2.1)) < 0 then 9223372036854775807 else if (x.2.2.2.2.2 ^^^ (x.2.2.2.2.2 + y.2.2.2.2.2)) &&& (y.2.2.2.2.2 ^^^ (x.2.2.2.2.2 + y.2.2.2.2.2)) < 0 then 9223372036854775807 else x.2.2.2.2.2 + y.2.2.2.2.2).toInt
    split
    · rw [hi_s]; exact bs.2
    · rename_i o1
      split
      · rw [hi_s]; exact bs.2
      · rename_i o2
        have e1 := ov_add o1
        have e2 := ov_add o2
        have b1' := int_b (x.2.2.2.2.1 + y.2.2.2.2.1)
        have b2' := int_b (x.2.2.2.2.2 + y.2.2.2.2.2)
        have e3 := in_add (a := a) (b := b) (by omega) (by omega)
        omega
theorem sub_bits (hx : gN x a) (hy : gN y b) : ∀ i, i < 64 → bt (fn_su x.1 x.2.1 y.1 y.2.1) i = false → bt (a - b) i = bt (x.1 - y.1) i := by
  intro i hi h
  unfold fn_su at h
  rw [bt_or, bt_or] at h
  have ho : bt y.2.1 i = false := by cases q : bt y.2.1 i <;> rw [q] at h <;> simp at h <;> rfl
  have hn : bt x.2.1 i = false := by cases q : bt x.2.1 i <;> rw [q] at h <;> simp at h <;> rfl
  rw [ho, hn, Bool.or_false, Bool.or_false, bt_xor] at h
  have e1 : (x.1 - y.1) + x.2.1 = (x.1 ||| x.2.1) - y.1 := by
    rw [or_add hx.1, Int64.sub_eq_add_neg, Int64.sub_eq_add_neg]
    ac_rfl
  have e2 : (x.1 - y.1) - y.2.1 = x.1 - (y.1 ||| y.2.1) := by
    rw [or_add hy.1, Int64.sub_eq_add_neg, Int64.sub_eq_add_neg, Int64.sub_eq_add_neg, Int64.neg_add, Int64.sub_eq_add_neg]
    ac_rfl
  rw [e1, e2, sub_bit hi, sub_bit hi, bt_or, bt_or, hn, ho, Bool.or_false, Bool.or_false] at h
  rw [sub_bit hi, sub_bit hi, hx.2.1 i hi hn, hy.2.1 i hi ho]
  have m1 := mod_sub_le (gN_b1 hx) i
  have m2 := mod_sub_le (gN_b2 hx) i
  have m3 := mod_sub_le (gN_b1 hy) i
  have m4 := mod_sub_le (gN_b2 hy) i
  have ce : decide (un (x.1 ||| x.2.1) % 2 ^ i < un y.1 % 2 ^ i) = decide (un x.1 % 2 ^ i < un (y.1 ||| y.2.1) % 2 ^ i) := by
    cases p : bt x.1 i <;> cases q : bt y.1 i <;> cases r : decide (un (x.1 ||| x.2.1) % 2 ^ i < un y.1 % 2 ^ i) <;> cases s : decide (un x.1 % 2 ^ i < un (y.1 ||| y.2.1) % 2 ^ i) <;> rw [p, q, r, s] at h <;> first | rfl | (exact absurd h (by decide))
  have cm : decide (un a % 2 ^ i < un b % 2 ^ i) = decide (un x.1 % 2 ^ i < un y.1 % 2 ^ i) := by
    by_cases g : un x.1 % 2 ^ i < un (y.1 ||| y.2.1) % 2 ^ i
    · rw [decide_eq_true g] at ce
      have := of_decide_eq_true ce
      rw [decide_eq_true (by omega), decide_eq_true (by omega)]
    · rw [decide_eq_false (by omega), decide_eq_false (by omega)]
  rw [cm]
theorem gN_sub (hx : gN x a) (hy : gN y b) : gN (fn_sub x.1 x.2.1 x.2.2.1 x.2.2.2.1 x.2.2.2.2.1 x.2.2.2.2.2 y.1 y.2.1 y.2.2.1 y.2.2.2.1 y.2.2.2.2.1 y.2.2.2.2.2) (a - b) := by
  have h3 := hx.2.2.1
  have h4 := hx.2.2.2.1
  have h5 := hx.2.2.2.2.1
  have h6 := hx.2.2.2.2.2
  have g3 := hy.2.2.1
  have g4 := hy.2.2.2.1
  have g5 := hy.2.2.2.2.1
  have g6 := hy.2.2.2.2.2
  have u0 := un_sub (x := a) (y := b)
  have la := un_lt a
  have lb := un_lt b
  have bs := int_b (a - b)
  refine ⟨msk_1, msk_2 (sub_bits hx hy), ?_, ?_, ?_, ?_⟩
  · show un (if fn_lt x.2.2.1 y.2.2.2.1 then 0 else x.2.2.1 - y.2.2.2.1) ≤ un (a - b)
    have u1 := un_sub (x := x.2.2.1) (y := y.2.2.2.1)
    have l1 := un_lt x.2.2.1
    have l2 := un_lt y.2.2.2.1
    split
    · exact u_ge _
    · rename_i g
      rw [fn_lt_un] at g
      omega
  · show un (a - b) ≤ un (if fn_lt x.2.2.1 y.2.2.2.1 then -1 else x.2.2.2.1 - y.2.2.1)
    have u2 := un_sub (x := x.2.2.2.1) (y := y.2.2.1)
    have l1 := un_lt x.2.2.2.1
    have l2 := un_lt y.2.2.1
    split
    · exact u_le _
    · rename_i g
      rw [fn_lt_un] at g
      omega
  · show (if (x.2.2.2.2.1 ^^^ y.2.2.2.2.2) &&& (x.2.2.2.2.1 ^^^ (x.2.2.2.2.1 - y.2.2.2.2.2)) < 0 then -9223372036854775808 else if (x.2.2.2.2.2 ^^^ y.2.2.2.2.1) &&& (x.2.2.2.2.2 ^^^ (x.2.2.2.2.2 - y.2.2.2.2.1)) < 0 then -9223372036854775808 else x.2.2.2.2.1 - y.2.2.2.2.2).toInt ≤ _
    split
    · rw [lo_s]; exact bs.1
    · rename_i o1
      split
      · rw [lo_s]; exact bs.1
      · rename_i o2
        have e1 := ov_sub o1
        have e2 := ov_sub o2
        have b1' := int_b (x.2.2.2.2.1 - y.2.2.2.2.2)
        have b2' := int_b (x.2.2.2.2.2 - y.2.2.2.2.1)
        have e3 := in_sub (a := a) (b := b) (by omega) (by omega)
        omega
  · show _ ≤ (if (x.2.2.2.2.1 ^^^ y.2.2.2.2.2) &&& (x.2.2.2.2.1 ^^^ (x.2.2.2.2.1 - y.2.2.2.2.2)) < 0 then 9223372036854775807 else if (x.2.2.2.2.2 ^^^ y.2.2.2.2.1) &&& (x.2.2.2.2.2 ^^^ (x.2.2.2.2.2 - y.2.2.2.2.1)) < 0 then 9223372036854775807 else x.2.2.2.2.2 - y.2.2.2.2.1).toInt
    split
    · rw [hi_s]; exact bs.2
    · rename_i o1
      split
      · rw [hi_s]; exact bs.2
      · rename_i o2
        have e1 := ov_sub o1
        have e2 := ov_sub o2
        have b1' := int_b (x.2.2.2.2.1 - y.2.2.2.2.2)
        have b2' := int_b (x.2.2.2.2.2 - y.2.2.2.2.1)
        have e3 := in_sub (a := a) (b := b) (by omega) (by omega)
        omega
end GA
