/-! PURE: which bits of a slot its parts ask for; the shorter program as a function. -/
section BI
variable {x y c : Int64}
theorem bt_t32 {x : Int64} {i : Nat} (h : i < 32) : x.toInt32.toBitVec.getLsbD i = bt x i := by
  unfold bt
  rw [Int64.toBitVec_toInt32, BitVec.getLsbD_signExtend, decide_eq_true h, Bool.true_and, if_pos (show i < 64 by omega)]
theorem bt_t16 {v : Int32} {i : Nat} (h : i < 16) : v.toInt16.toBitVec.getLsbD i = v.toBitVec.getLsbD i := by
  rw [Int32.toBitVec_toInt16, BitVec.getLsbD_signExtend, decide_eq_true h, Bool.true_and, if_pos (show i < 32 by omega)]
theorem op_bits (h : ∀ i, i < 8 → bt x i = bt y i) : d_op x = d_op y := by
  unfold d_op
  apply Int32.toBitVec_inj.mp
  apply BitVec.eq_of_getLsbD_eq
  intro i hi
  rw [Int32.toBitVec_and, Int32.toBitVec_and, BitVec.getLsbD_and, BitVec.getLsbD_and, bt_t32 hi, bt_t32 hi]
  by_cases g : i < 8
  · rw [h i g]
  · have m : ∀ i, i < 32 → 8 ≤ i → (255 : Int32).toBitVec.getLsbD i = false := by decide
    rw [m i hi (by omega), Bool.and_false, Bool.and_false]
theorem nib_bits {k : Nat} (hk : k < 32) (h : ∀ i, i < 4 → bt x (k + i) = bt y (k + i)) : (jlushr x (nI k)).toInt32 &&& 15 = (jlushr y (nI k)).toInt32 &&& 15 := by
  apply Int32.toBitVec_inj.mp
  apply BitVec.eq_of_getLsbD_eq
  intro i hi
  rw [Int32.toBitVec_and, Int32.toBitVec_and, BitVec.getLsbD_and, BitVec.getLsbD_and, bt_t32 hi, bt_t32 hi, bt_ush (by omega), bt_ush (by omega)]
  by_cases g : i < 4
  · rw [h i g]
  · have m : ∀ i, i < 32 → 4 ≤ i → (15 : Int32).toBitVec.getLsbD i = false := by decide
    rw [m i hi (by omega), Bool.and_false, Bool.and_false]
theorem to_bits (h : ∀ i, i < 4 → bt x (8 + i) = bt y (8 + i)) : d_to x = d_to y := nib_bits (k := 8) (by decide) h
theorem from_bits (h : ∀ i, i < 4 → bt x (12 + i) = bt y (12 + i)) : d_from x = d_from y := nib_bits (k := 12) (by decide) h
theorem field_bits (h : ∀ i, i < 32 → bt x (32 + i) = bt y (32 + i)) : d_field x = d_field y := by
  unfold d_field
  apply Int32.toBitVec_inj.mp
  apply BitVec.eq_of_getLsbD_eq
  intro i hi
  rw [bt_t32 hi, bt_t32 hi, show (32 : Int32) = nI 32 from rfl, bt_ush (by omega), bt_ush (by omega), h i hi]
theorem off_bits (h : ∀ i, i < 16 → bt x (16 + i) = bt y (16 + i)) : d_off x = d_off y := by
  unfold d_off
  have e : (jlushr x 16).toInt32.toInt16 = (jlushr y 16).toInt32.toInt16 := by
    apply Int16.toBitVec_inj.mp
    apply BitVec.eq_of_getLsbD_eq
    intro i hi
    rw [bt_t16 hi, bt_t16 hi, bt_t32 (by omega), bt_t32 (by omega), show (16 : Int32) = nI 16 from rfl, bt_ush (by omega), bt_ush (by omega), h i hi]
  rw [e]
/-- OFFSET's bits -/
theorem off_bt {i : Nat} (h : i < 16) : bt (d_off c).toInt64 i = bt c (16 + i) := by
  unfold d_off
  show ((jlushr c 16).toInt32.toInt16.toInt32.toInt64).toBitVec.getLsbD i = _
  rw [Int32.toBitVec_toInt64, BitVec.getLsbD_signExtend, decide_eq_true (show i < 64 by omega), Bool.true_and, if_pos (show i < 32 by omega), Int16.toBitVec_toInt32, BitVec.getLsbD_signExtend, decide_eq_true (show i < 32 by omega), Bool.true_and, if_pos h, bt_t16 h, bt_t32 (by omega), show (16 : Int32) = nI 16 from rfl, bt_ush (by omega)]
theorem m65 : ∀ i, i < 64 → bt 65535 i = decide (i < 16) := by decide
theorem mhi : ∀ i, i < 64 → bt 4294901760 i = decide (16 ≤ i ∧ i < 32) := by decide
theorem mno : ∀ i, i < 64 → bt (-4294901761) i = !decide (16 ≤ i ∧ i < 32) := by decide
theorem off_word : jlshl ((d_off c).toInt64 &&& 65535) 16 = c &&& 4294901760 := by
  refine bt_ext (fun i hi => ?_)
  rw [show (16 : Int32) = nI 16 from rfl, bt_shl (by omega), bt_and, bt_and, mhi i hi, decide_eq_true hi, Bool.true_and]
  by_cases g : i < 16
  · rw [decide_eq_true g, decide_eq_false (show ¬ (16 ≤ i ∧ i < 32) by omega), Bool.not_true, Bool.false_and, Bool.and_false]
  · rw [decide_eq_false g, Bool.not_false, Bool.true_and, m65 (i - 16) (by omega)]
    by_cases l : i < 32
    · rw [off_bt (by omega), show 16 + (i - 16) = i by omega, decide_eq_true (show i - 16 < 16 by omega), decide_eq_true (show 16 ≤ i ∧ i < 32 by omega)]
    · rw [decide_eq_false (show ¬ i - 16 < 16 by omega), decide_eq_false (show ¬ (16 ≤ i ∧ i < 32) by omega), Bool.and_false, Bool.and_false]
/-- a relation becomes a jump -/
theorem jmp_op : d_op (5 ||| (c &&& 4294901760)) = 5 := by
  rw [show (5 : Int32) = d_op 5 by decide]
  refine op_bits (fun i hi => ?_)
  rw [bt_or, bt_and, mhi i (by omega), decide_eq_false (show ¬ (16 ≤ i ∧ i < 32) by omega), Bool.and_false, Bool.or_false]
theorem jmp_off : d_off (5 ||| (c &&& 4294901760)) = d_off c := by
  refine off_bits (fun i hi => ?_)
  have m : ∀ i, i < 16 → bt 5 (16 + i) = false := by decide
  rw [bt_or, bt_and, mhi (16 + i) (by omega), decide_eq_true (show 16 ≤ 16 + i ∧ 16 + i < 32 by omega), Bool.and_true, m i hi, Bool.false_or]
theorem jmp_fam : d_fam (5 ||| (c &&& 4294901760)) = 7 := by
  unfold d_fam
  rw [jmp_op]
  decide
/-- a number is moved -/
def z_mv (c x : Int64) : Int64 := (183 ||| jlshl (d_to c).toInt64 8) ||| jlshl x 32
theorem to_bt {i : Nat} (hi : i < 64) : bt (d_to c).toInt64 i = (decide (i < 4) && bt c (8 + i)) := by
  obtain ⟨k, hk, e⟩ := and_15 (jlushr c 8).toInt32
  have et : d_to c = nI k := e
  have b1' : ∀ k, k < 16 → ∀ i, i < 64 → 4 ≤ i → bt (nI k).toInt64 i = false := by decide
  by_cases g : i < 4
  · rw [decide_eq_true g, Bool.true_and]
    show ((d_to c).toInt64).toBitVec.getLsbD i = _
    rw [Int32.toBitVec_toInt64, BitVec.getLsbD_signExtend, decide_eq_true hi, Bool.true_and, if_pos (show i < 32 by omega)]
    unfold d_to
    rw [Int32.toBitVec_and, BitVec.getLsbD_and, bt_t32 (by omega), show (8 : Int32) = nI 8 from rfl, bt_ush (by omega)]
    have m : ∀ i, i < 4 → (15 : Int32).toBitVec.getLsbD i = true := by decide
    rw [m i g, Bool.and_true]
  · rw [decide_eq_false g, Bool.false_and, et]
    exact b1' k hk i hi (by omega)
theorem mv_bt {x : Int64} {i : Nat} (hi : i < 64) : bt (z_mv c x) i = ((bt 183 i || (decide (8 ≤ i) && bt (d_to c).toInt64 (i - 8))) || (decide (32 ≤ i) && bt x (i - 32))) := by
  unfold z_mv
  rw [bt_or, bt_or, show (8 : Int32) = nI 8 from rfl, bt_shl (by omega), show (32 : Int32) = nI 32 from rfl, bt_shl (by omega), decide_eq_true hi, Bool.true_and, Bool.true_and]
  by_cases a : i < 8
  · rw [decide_eq_true a, decide_eq_false (show ¬ 8 ≤ i by omega), decide_eq_true (show i < 32 by omega), decide_eq_false (show ¬ 32 ≤ i by omega)]
    rfl
  · rw [decide_eq_false a, decide_eq_true (show 8 ≤ i by omega)]
    by_cases b : i < 32
    · rw [decide_eq_true b, decide_eq_false (show ¬ 32 ≤ i by omega)]
      rfl
    · rw [decide_eq_false b, decide_eq_true (show 32 ≤ i by omega)]
      rfl
theorem mv_op {x : Int64} : d_op (z_mv c x) = 183 := by
  rw [show (183 : Int32) = d_op 183 by decide]
  refine op_bits (fun i hi => ?_)
  rw [mv_bt (by omega), decide_eq_false (show ¬ 8 ≤ i by omega), decide_eq_false (show ¬ 32 ≤ i by omega), Bool.false_and, Bool.false_and, Bool.or_false, Bool.or_false]
theorem mv_fam {x : Int64} : d_fam (z_mv c x) = 6 := by
  unfold d_fam
  rw [mv_op]
  decide
theorem mv_to {x : Int64} : d_to (z_mv c x) = d_to c := by
  refine to_bits (fun i hi => ?_)
  have m : ∀ i, i < 4 → bt 183 (8 + i) = false := by decide
  rw [mv_bt (by omega), decide_eq_true (show 8 ≤ 8 + i by omega), decide_eq_false (show ¬ 32 ≤ 8 + i by omega), Bool.false_and, Bool.or_false, m i hi, Bool.false_or, Bool.true_and, show 8 + i - 8 = i by omega, to_bt (by omega), decide_eq_true hi, Bool.true_and]
theorem mv_field {x : Int64} : d_field (z_mv c x) = x.toInt32 := by
  apply Int32.toBitVec_inj.mp
  apply BitVec.eq_of_getLsbD_eq
  intro i hi
  unfold d_field
  rw [bt_t32 hi, bt_t32 hi, show (32 : Int32) = nI 32 from rfl, bt_ush (by omega), mv_bt (by omega), decide_eq_true (show 8 ≤ 32 + i by omega), decide_eq_true (show 32 ≤ 32 + i by omega), Bool.true_and, Bool.true_and, to_bt (by omega), decide_eq_false (show ¬ 32 + i - 8 < 4 by omega), Bool.false_and, Bool.or_false, show 32 + i - 32 = i by omega]
  have m : ∀ i, i < 32 → bt 183 (32 + i) = false := by decide
  rw [m i hi, Bool.false_or]
/-- a word with another OFFSET -/
def z_off (c : Int64) (v : Int32) : Int64 := (c &&& -4294901761) ||| jlshl ((v &&& 65535).toInt64) 16
theorem z_off2 {v : Int32} : (c &&& -4294901761) ||| jlshl (v.toInt64 &&& 65535) 16 = z_off c v := by
  unfold z_off
  rw [Int32.toInt64_and]
  rfl
theorem off_set_bt {v : Int32} {i : Nat} (hi : i < 64) : bt (z_off c v) i = if 16 ≤ i ∧ i < 32 then v.toBitVec.getLsbD (i - 16) else bt c i := by
  rw [← z_off2, bt_or, bt_and, mno i hi, show (16 : Int32) = nI 16 from rfl, bt_shl (by omega), bt_and, decide_eq_true hi, Bool.true_and]
  by_cases g : 16 ≤ i ∧ i < 32
  · rw [if_pos g, decide_eq_true g, Bool.not_true, Bool.and_false, Bool.false_or, decide_eq_false (show ¬ i < 16 by omega), Bool.not_false, Bool.true_and, m65 (i - 16) (by omega), decide_eq_true (show i - 16 < 16 by omega), Bool.and_true]
    show (v.toInt64).toBitVec.getLsbD (i - 16) = _
    rw [Int32.toBitVec_toInt64, BitVec.getLsbD_signExtend, decide_eq_true (show i - 16 < 64 by omega), Bool.true_and, if_pos (show i - 16 < 32 by omega)]
  · rw [if_neg g, decide_eq_false g, Bool.not_false, Bool.and_true]
    by_cases l : i < 16
    · rw [decide_eq_true l, Bool.not_true, Bool.false_and, Bool.or_false]
    · rw [m65 (i - 16) (by omega), decide_eq_false (show ¬ i - 16 < 16 by omega), Bool.and_false, Bool.and_false, Bool.or_false]
theorem zo_op {v : Int32} : d_op (z_off c v) = d_op c := op_bits (fun i hi => by rw [off_set_bt (by omega), if_neg (by omega)])
theorem zo_to {v : Int32} : d_to (z_off c v) = d_to c := to_bits (fun i hi => by rw [off_set_bt (by omega), if_neg (by omega)])
theorem zo_from {v : Int32} : d_from (z_off c v) = d_from c := from_bits (fun i hi => by rw [off_set_bt (by omega), if_neg (by omega)])
theorem zo_field {v : Int32} : d_field (z_off c v) = d_field c := field_bits (fun i hi => by rw [off_set_bt (by omega), if_neg (by omega)])
theorem zo_off {v : Int32} : d_off (z_off c v) = v.toInt16.toInt32 := by
  unfold d_off
  have e : (jlushr (z_off c v) 16).toInt32.toInt16 = v.toInt16 := by
    apply Int16.toBitVec_inj.mp
    apply BitVec.eq_of_getLsbD_eq
    intro i hi
    rw [bt_t16 hi, bt_t16 hi, bt_t32 (by omega), show (16 : Int32) = nI 16 from rfl, bt_ush (by omega), off_set_bt (by omega), if_pos (by omega), show 16 + i - 16 = i by omega]
  rw [e]
end BI
