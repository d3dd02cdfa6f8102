/-! Numbers of which not all is known (the document's section Z): what is known of one, as six longs: bits, open bits, least and greatest without sign, least and greatest with sign. -/
abbrev fn_N : Type := Int64 × Int64 × Int64 × Int64 × Int64 × Int64
/-- below, without sign -/
abbrev fn_lt (x y : Int64) : Prop := x ^^^ (-9223372036854775808) < y ^^^ (-9223372036854775808)
def fn_max (x y : Int64) : Int64 := if fn_lt x y then y else x
def fn_min (x y : Int64) : Int64 := if fn_lt y x then y else x
/-- the highest bit that is 1, and all below -/
def fn_d1 (x : Int64) (k : Int32) : Int64 := x ||| (x.toUInt64 >>> (k.toInt64.toUInt64 &&& Int64.toUInt64 63)).toInt64
def fn_down (x : Int64) : Int64 := fn_d1 (fn_d1 (fn_d1 (fn_d1 (fn_d1 (fn_d1 x 1) 2) 4) 8) 16) 32
theorem fn_max_lt {x y : Int64} (h : fn_lt x y) : y = fn_max x y := by unfold fn_max; rw [if_pos h]
theorem fn_max_ge {x y : Int64} (h : ¬ fn_lt x y) : x = fn_max x y := by unfold fn_max; rw [if_neg h]
theorem fn_min_lt {x y : Int64} (h : fn_lt y x) : y = fn_min x y := by unfold fn_min; rw [if_pos h]
theorem fn_min_ge {x y : Int64} (h : ¬ fn_lt y x) : x = fn_min x y := by unfold fn_min; rw [if_neg h]
/-- what the larger number's knowledge must leave open -/
def fn_cov (x y : fn_N) : Prop := ((x.2.1 ^^^ -1) &&& y.2.1) = 0 ∧ ((x.1 ^^^ y.1) &&& (x.2.1 ^^^ -1)) = 0 ∧ ¬ fn_lt y.2.2.1 x.2.2.1 ∧ ¬ fn_lt x.2.2.2.1 y.2.2.2.1 ∧ x.2.2.2.2.1 ≤ y.2.2.2.2.1 ∧ y.2.2.2.2.2 ≤ x.2.2.2.2.2
