/-! PURE: which longs a number of section Z may be; settling keeps them. -/
def gN (x : fn_N) (v : Int64) : Prop := (∀ i, i < 64 → bt x.1 i = true → bt x.2.1 i = false) ∧ (∀ i, i < 64 → bt x.2.1 i = false → bt v i = bt x.1 i) ∧ un x.2.2.1 ≤ un v ∧ un v ≤ un x.2.2.2.1 ∧ x.2.2.2.2.1.toInt ≤ v.toInt ∧ v.toInt ≤ x.2.2.2.2.2.toInt
section GN
variable {x y : fn_N} {u v w a b c d : Int64}
theorem un_sub_le (h : ∀ i, i < 64 → bt a i = true → bt b i = true) : un a ≤ un b := by
  have e : a &&& b = a := bt_ext (fun i hi => by
    rw [bt_and]
    by_cases g : bt a i = true
    · rw [g, h i hi g]; rfl
    · rw [Bool.not_eq_true] at g
      rw [g]; rfl)
  have := un_and (x := a) (y := b)
  rw [e] at this
  rw [this]
  exact Nat.and_le_right
theorem gN_lo (h : gN x v) : un x.1 ≤ un v := un_sub_le (fun i hi g => by rw [h.2.1 i hi (h.1 i hi g)]; exact g)
theorem gN_hi (h : gN x v) : un v ≤ un (x.1 ||| x.2.1) := un_sub_le (fun i hi g => by
  rw [bt_or]
  by_cases m : bt x.2.1 i = true
  · rw [m, Bool.or_true]
  · rw [Bool.not_eq_true] at m
    rw [← h.2.1 i hi m, g]; rfl)
theorem un_max : un (fn_max a b) = max (un a) (un b) := by
  unfold fn_max
  by_cases g : fn_lt a b
  · rw [if_pos g]; rw [fn_lt_un] at g; omega
  · rw [if_neg g]; rw [fn_lt_un] at g; omega
theorem un_min : un (fn_min a b) = min (un a) (un b) := by
  unfold fn_min
  by_cases g : fn_lt b a
  · rw [if_pos g]; rw [fn_lt_un] at g; omega
  · rw [if_neg g]; rw [fn_lt_un] at g; omega
theorem int_smax : (fn_smax a b).toInt = max a.toInt b.toInt := by
  unfold fn_smax
  by_cases g : b < a
  · rw [if_pos g]; rw [i64_lt] at g; omega
  · rw [if_neg g]; rw [i64_lt] at g; omega
theorem int_smin : (fn_smin a b).toInt = min a.toInt b.toInt := by
  unfold fn_smin
  by_cases g : b < a
  · rw [if_pos g]; rw [i64_lt] at g; omega
  · rw [if_neg g]; rw [i64_lt] at g; omega
/-- orders with and without sign, where signs are the same -/
theorem ord_su (h : ¬ a ^^^ b < 0) (h1 : un a ≤ un v) (h2 : un v ≤ un b) : a.toInt ≤ v.toInt ∧ v.toInt ≤ b.toInt := by
  rw [neg_xor, neg_un, neg_un] at h
  have e1 := int_un a
  have e2 := int_un b
  have e3 := int_un v
  split at e1 <;> split at e2 <;> split at e3 <;> omega
theorem ord_us (h : ¬ a ^^^ b < 0) (h1 : a.toInt ≤ v.toInt) (h2 : v.toInt ≤ b.toInt) : un a ≤ un v ∧ un v ≤ un b := by
  rw [neg_xor, neg_un, neg_un] at h
  have e1 := int_un a
  have e2 := int_un b
  have e3 := int_un v
  have l1 := un_lt a
  have l2 := un_lt b
  have l3 := un_lt v
  split at e1 <;> split at e2 <;> split at e3 <;> omega
/-- bits above the highest that differs -/
theorem bits_top {i : Nat} (h1 : un a ≤ un v) (h2 : un v ≤ un b) (hi : i < 64) (hs : sm (a ^^^ b) i = false) : bt v i = bt a i := by
  have same : ∀ j, i ≤ j → j < 64 → bt a j = bt b j := by
    intro j hj hj2
    have : ¬ bt (a ^^^ b) j = true := fun z => by
      rw [sm_iff.mpr ⟨j, hj2, hj, z⟩] at hs
      exact absurd hs (by decide)
    rw [bt_xor] at this
    cases ha : bt a j <;> cases hb : bt b j <;> rw [ha, hb] at this <;> first | rfl | exact absurd rfl this
  have q : un a / 2 ^ i = un b / 2 ^ i := by
    apply Nat.eq_of_testBit_eq
    intro j
    rw [Nat.testBit_div_two_pow, Nat.testBit_div_two_pow, ← un_bt, ← un_bt]
    by_cases hj : j + i < 64
    · exact same (j + i) (by omega) hj
    · rw [bt_ge (by omega), bt_ge (by omega)]
  have qv : un v / 2 ^ i = un a / 2 ^ i := by
    have l1 : un a / 2 ^ i ≤ un v / 2 ^ i := Nat.div_le_div_right h1
    have l2 : un v / 2 ^ i ≤ un b / 2 ^ i := Nat.div_le_div_right h2
    omega
  have := congrArg (fun n => n.testBit 0) qv
  simp only [Nat.testBit_div_two_pow, Nat.zero_add] at this
  rw [un_bt, un_bt]
  exact this
theorem gN_s1 (h : gN x v) : ∃ y, fn_s1 x = some y ∧ gN y v := by
  obtain ⟨h1, h2, h3, h4, h5, h6⟩ := h
  have lo := gN_lo ⟨h1, h2, h3, h4, h5, h6⟩
  have hi := gN_hi ⟨h1, h2, h3, h4, h5, h6⟩
  have l1 : un (fn_sl1 x) ≤ un v := by unfold fn_sl1; rw [un_max]; omega
  have g1 : un v ≤ un (fn_sg1 x) := by unfold fn_sg1; rw [un_min]; omega
  have sa : (fn_sa x).1.toInt ≤ v.toInt ∧ v.toInt ≤ (fn_sa x).2.toInt := by
    unfold fn_sa
    by_cases g : fn_sl1 x ^^^ fn_sg1 x < 0
    · rw [if_pos g]; exact ⟨h5, h6⟩
    · rw [if_neg g]
      obtain ⟨o1, o2⟩ := ord_su g l1 g1
      show (fn_smax _ _).toInt ≤ _ ∧ _ ≤ (fn_smin _ _).toInt
      rw [int_smax, int_smin]
      omega
  have sb : un (fn_sb x).1 ≤ un v ∧ un v ≤ un (fn_sb x).2 := by
    unfold fn_sb
    by_cases g : (fn_sa x).1 ^^^ (fn_sa x).2 < 0
    · rw [if_pos g]; exact ⟨l1, g1⟩
    · rw [if_neg g]
      obtain ⟨o1, o2⟩ := ord_us g sa.1 sa.2
      show un (fn_max _ _) ≤ _ ∧ _ ≤ un (fn_min _ _)
      rw [un_max, un_min]
      omega
  have top : ∀ i, i < 64 → bt (fn_so x) i = false → bt v i = bt (fn_sb x).1 i := by
    intro i hi2 hs
    unfold fn_so at hs
    rw [bt_down] at hs
    exact bits_top sb.1 sb.2 hi2 hs
  unfold fn_s1
  rw [if_neg (by
    rintro (z | z)
    · rw [fn_lt_un] at z; omega
    · rw [i64_lt] at z; omega), if_pos (bt_zero.mpr (fun i hi2 => by
    rw [bt_and, bt_and, bt_not hi2, bt_not hi2, bt_xor]
    by_cases m : bt x.2.1 i = true
    · rw [m]; simp
    · rw [Bool.not_eq_true] at m
      by_cases s : bt (fn_so x) i = true
      · rw [s]; simp
      · rw [Bool.not_eq_true] at s
        rw [← h2 i hi2 m, top i hi2 s]; simp))]
  refine ⟨_, rfl, fun i hi2 g => ?_, fun i hi2 g => ?_, sb.1, sb.2, sa.1, sa.2⟩
  · show bt (x.2.1 &&& fn_so x) i = false
    have g' : bt (x.1 &&& fn_so x ||| (fn_sb x).1 &&& (fn_so x ^^^ -1)) i = true := g
    rw [bt_or, bt_and, bt_and, bt_not hi2] at g'
    rw [bt_and]
    cases s : bt (fn_so x) i
    · rw [Bool.and_false]
    · rw [s] at g'
      simp at g'
      rw [h1 i hi2 g', Bool.false_and]
  · have g' : bt (x.2.1 &&& fn_so x) i = false := g
    show bt v i = bt (x.1 &&& fn_so x ||| (fn_sb x).1 &&& (fn_so x ^^^ -1)) i
    rw [bt_and] at g'
    rw [bt_or, bt_and, bt_and, bt_not hi2]
    cases s : bt (fn_so x) i
    · rw [top i hi2 s]; simp
    · rw [s, Bool.and_true] at g'
      rw [h2 i hi2 g']; simp
theorem gN_it (h : gN x v) : ∀ k, ∃ y, fn_it k x = some y ∧ gN y v := by
  intro k
  induction k with
  | zero => exact ⟨x, rfl, h⟩
  | succ k ih =>
    obtain ⟨y, q1, q2⟩ := ih
    obtain ⟨z, r1, r2⟩ := gN_s1 q2
    exact ⟨z, fn_it_s q1 r1, r2⟩
theorem gN_fin (h : gN x v) : gN (fn_fin x) v := by
  obtain ⟨y, q1, q2⟩ := gN_it h 3
  unfold fn_fin
  rw [q1]
  exact q2
/-- an exact number is known -/
theorem gN_ex (h : gN x v) (e : x.2.1 = 0) : v = x.1 := bt_ext (fun i hi => h.2.1 i hi (by rw [e, bt_0]))
theorem ex_gN : gN (fn_ex v) v := ⟨fun i _ _ => bt_0, fun i _ _ => rfl, Nat.le_refl _, Nat.le_refl _, Int.le_refl _, Int.le_refl _⟩
theorem un_m1 : un (-1) = 18446744073709551615 := by decide
theorem un_z : un 0 = 0 := by decide
theorem int_b (v : Int64) : -9223372036854775808 ≤ v.toInt ∧ v.toInt ≤ 9223372036854775807 := ⟨Int64.le_toInt v, Int64.toInt_le v⟩
theorem lo_s : (-9223372036854775808 : Int64).toInt = -9223372036854775808 := by decide
theorem hi_s : (9223372036854775807 : Int64).toInt = 9223372036854775807 := by decide
/-- bits and bounds without sign are known, no more -/
theorem gN_u {n1 n2 n3 n4 : Int64} (h1 : ∀ i, i < 64 → bt n1 i = true → bt n2 i = false) (h2 : ∀ i, i < 64 → bt n2 i = false → bt v i = bt n1 i) (h3 : un n3 ≤ un v) (h4 : un v ≤ un n4) : gN (n1, n2, n3, n4, -9223372036854775808, 9223372036854775807) v := ⟨h1, h2, h3, h4, by rw [show ((n1, n2, n3, n4, (-9223372036854775808 : Int64), (9223372036854775807 : Int64)) : fn_N).2.2.2.2.1 = -9223372036854775808 from rfl, lo_s]; exact (int_b v).1, by rw [show ((n1, n2, n3, n4, (-9223372036854775808 : Int64), (9223372036854775807 : Int64)) : fn_N).2.2.2.2.2 = 9223372036854775807 from rfl, hi_s]; exact (int_b v).2⟩
theorem u_le (v : Int64) : un v ≤ un (-1) := by rw [un_m1]; have := un_lt v; omega
theorem u_ge (v : Int64) : un 0 ≤ un v := by rw [un_z]; omega
theorem z_m1 : ∀ i, i < 64 → bt 0 i = true → bt (-1) i = false := fun i _ z => by rw [bt_0] at z; exact absurd z (by decide)
theorem m1_z : ∀ i, i < 64 → bt (-1) i = false → bt v i = bt 0 i := fun i hi z => by rw [bt_m1 hi] at z; exact absurd z (by decide)
theorem any_gN : gN fn_any v := gN_u z_m1 m1_z (u_ge v) (u_le v)
end GN
