/-! PURE: bytes and longs. -/
section HB
variable {f g : Nat → Int32} {v w : Int64} {z : Int32} {a b n i j : Nat}
theorem bt_i32 (h : i < 32) : bt z.toInt64 i = ib z i := by
  unfold bt ib
  rw [Int32.toBitVec_toInt64, BitVec.getLsbD_signExtend, if_pos h, decide_eq_true (show i < 64 by omega), Bool.true_and]
theorem bt_byte (h : i < 64) : bt ((z &&& 255).toInt64) i = (decide (i < 8) && ib z i) := by
  rw [and_64, bt_and, bt_255 h]
  by_cases e : i < 8
  · rw [decide_eq_true e, Bool.and_true, Bool.true_and, bt_i32 (by omega)]
  · rw [decide_eq_false e, Bool.and_false, Bool.false_and]
theorem yn_bt : ∀ (n : Nat) (v : Int64) (i : Nat), n ≤ 8 → i < 64 → bt (yn f a n v) i = if i < 8 * n then ib (f (a + i / 8)) (i % 8) else bt v (i - 8 * n) := by
  intro n
  induction n with
  | zero => intro v i _ hi; rw [yn, if_neg (by omega)]; rfl
  | succ n ih =>
    intro v i hn hi
    rw [yn, ih _ i (by omega) hi]
    by_cases e : i < 8 * n
    · rw [if_pos e, if_pos (by omega)]
    · rw [if_neg e, bt_or, show (8 : Int32) = nI 8 from rfl, bt_shl (by decide), bt_byte (by omega), decide_eq_true (show i - 8 * n < 64 by omega), Bool.true_and]
      by_cases e2 : i - 8 * n < 8
      · rw [decide_eq_true e2, if_pos (by omega), Bool.not_true, Bool.false_and, Bool.false_or, Bool.true_and, show i / 8 = n by omega, show i % 8 = i - 8 * n by omega]
      · rw [decide_eq_false e2, if_neg (by omega), Bool.not_false, Bool.true_and, Bool.false_and, Bool.or_false, show i - 8 * n - 8 = i - 8 * (n + 1) by omega]
theorem ib_8 {x : Int32} (h : i < 8) : ib x.toInt8.toInt32 i = ib x i := by
  unfold ib
  rw [Int8.toBitVec_toInt32, BitVec.getLsbD_signExtend, if_pos h, decide_eq_true (show i < 32 by omega), Bool.true_and, Int32.toBitVec_toInt8, BitVec.getLsbD_signExtend, decide_eq_true h, Bool.true_and, if_pos (show i < 32 by omega)]
theorem yb_ib (hb : b < 8) (hi : i < 8) : ib (yb v b) i = bt v (8 * b + i) := by
  unfold yb
  rw [ib_8 hi]
  show (jlushr v (8 * nI b)).toInt32.toBitVec.getLsbD i = _
  rw [bt_t32 (by omega), show (8 : Int32) * nI b = nI (8 * b) by rw [show (8 : Int32) = nI 8 from rfl, mul_nI], bt_ush (by omega)]
theorem yn_id (h : ∀ i, i < 8 → f (a + i) = yb v i) : yn f a 8 0 = v := bt_ext (fun i hi => by
  rw [yn_bt 8 0 i (by decide) hi, if_pos (by omega), h (i / 8) (by omega), yb_ib (by omega) (by omega), show 8 * (i / 8) + i % 8 = i by omega])
theorem yn_c : ∀ (n : Nat) (v : Int64), (∀ i, i < n → f (a + i) = g (b + i)) → yn f a n v = yn g b n v := by
  intro n
  induction n with
  | zero => intro v _; rfl
  | succ n ih =>
    intro v h
    rw [yn, yn, h n (by omega)]
    exact ih _ (fun i hi => h i (by omega))
/-- the signed shift gives the same bytes -/
theorem yb_s (hb : b < 8) : (jlshr v (8 * nI b)).toInt32.toInt8.toInt32 = yb v b := by
  unfold yb
  have e : (jlshr v (8 * nI b)).toInt32.toInt8 = (jlushr v (8 * nI b)).toInt32.toInt8 := by
    apply Int8.toBitVec_inj.mp
    apply BitVec.eq_of_getLsbD_eq
    intro i hi
    rw [Int32.toBitVec_toInt8, Int32.toBitVec_toInt8, BitVec.getLsbD_signExtend, BitVec.getLsbD_signExtend, if_pos (show i < 32 by omega), if_pos (show i < 32 by omega), bt_t32 (by omega), bt_t32 (by omega), show (8 : Int32) * nI b = nI (8 * b) by rw [show (8 : Int32) = nI 8 from rfl, mul_nI], bt_ush (by omega), bt_shr (by omega) (by omega), if_pos (by omega)]
  rw [e]
theorem nar_b {x : Int32} : vp_nar .byte x.toInt8.toInt32 = x.toInt8.toInt32 := by
  show (x.toInt8.toInt32).toInt8.toInt32 = _
  rw [Int8.toInt8_toInt32]
end HB
