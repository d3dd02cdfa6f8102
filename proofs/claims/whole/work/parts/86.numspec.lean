/-! Numbers of which not all is known (the document's section Z): what is known of one, as six longs: bits, open bits, least and greatest without sign, least and greatest with sign. -/
abbrev fn_N : Type := Int64 × Int64 × Int64 × Int64 × Int64 × Int64
/-- below, without sign -/
abbrev fn_lt (x y : Int64) : Prop := x ^^^ (-9223372036854775808) < y ^^^ (-9223372036854775808)
def fn_max (x y : Int64) : Int64 := if fn_lt x y then y else x
def fn_min (x y : Int64) : Int64 := if fn_lt y x then y else x
/-- the highest bit that is 1, and all below -/
def fn_d1 (x : Int64) (k : Int32) : Int64 := x ||| (x.toUInt64 >>> (k.toInt64.toUInt64 &&& Int64.toUInt64 63)).toInt64
def fn_down (x : Int64) : Int64 := fn_d1 (fn_d1 (fn_d1 (fn_d1 (fn_d1 (fn_d1 x 1) 2) 4) 8) 16) 32
theorem fn_max_lt {x y : Int64} (h : fn_lt x y) : y = fn_max x y := by unfold fn_max; rw [if_pos h]
theorem fn_max_ge {x y : Int64} (h : ¬ fn_lt x y) : x = fn_max x y := by unfold fn_max; rw [if_neg h]
theorem fn_min_lt {x y : Int64} (h : fn_lt y x) : y = fn_min x y := by unfold fn_min; rw [if_pos h]
theorem fn_min_ge {x y : Int64} (h : ¬ fn_lt y x) : x = fn_min x y := by unfold fn_min; rw [if_neg h]
/-- what the larger number's knowledge must leave open -/
def fn_cov (x y : fn_N) : Prop := ((x.2.1 ^^^ -1) &&& y.2.1) = 0 ∧ ((x.1 ^^^ y.1) &&& (x.2.1 ^^^ -1)) = 0 ∧ ¬ fn_lt y.2.2.1 x.2.2.1 ∧ ¬ fn_lt x.2.2.2.1 y.2.2.2.1 ∧ x.2.2.2.2.1 ≤ y.2.2.2.2.1 ∧ y.2.2.2.2.2 ≤ x.2.2.2.2.2
def fn_smax (x y : Int64) : Int64 := if y < x then x else y
def fn_smin (x y : Int64) : Int64 := if y < x then y else x
/-- one round of settling: bounds by bits; signed bounds; bounds by them; none if they cross; bits by bounds; none if they differ -/
def fn_sl1 (x : fn_N) : Int64 := fn_max x.2.2.1 x.1
def fn_sg1 (x : fn_N) : Int64 := fn_min x.2.2.2.1 (x.1 ||| x.2.1)
def fn_sa (x : fn_N) : Int64 × Int64 := if fn_sl1 x ^^^ fn_sg1 x < 0 then (x.2.2.2.2.1, x.2.2.2.2.2) else (fn_smax x.2.2.2.2.1 (fn_sl1 x), fn_smin x.2.2.2.2.2 (fn_sg1 x))
def fn_sb (x : fn_N) : Int64 × Int64 := if (fn_sa x).1 ^^^ (fn_sa x).2 < 0 then (fn_sl1 x, fn_sg1 x) else (fn_max (fn_sl1 x) (fn_sa x).1, fn_min (fn_sg1 x) (fn_sa x).2)
def fn_so (x : fn_N) : Int64 := fn_down ((fn_sb x).1 ^^^ (fn_sb x).2)
def fn_s1 (x : fn_N) : Option fn_N :=
  if fn_lt (fn_sb x).2 (fn_sb x).1 ∨ (fn_sa x).2 < (fn_sa x).1 then none
  else if ((x.1 ^^^ (fn_sb x).1) &&& (x.2.1 ^^^ -1) &&& (fn_so x ^^^ -1)) = 0 then some (x.1 &&& fn_so x ||| (fn_sb x).1 &&& (fn_so x ^^^ -1), x.2.1 &&& fn_so x, (fn_sb x).1, (fn_sb x).2, (fn_sa x).1, (fn_sa x).2)
  else none
theorem fn_sa_pos {x : fn_N} (g : fn_sl1 x ^^^ fn_sg1 x < 0) : fn_sa x = (x.2.2.2.2.1, x.2.2.2.2.2) := by unfold fn_sa; rw [if_pos g]
theorem fn_sa_neg {x : fn_N} (g : ¬ fn_sl1 x ^^^ fn_sg1 x < 0) : fn_sa x = (fn_smax x.2.2.2.2.1 (fn_sl1 x), fn_smin x.2.2.2.2.2 (fn_sg1 x)) := by unfold fn_sa; rw [if_neg g]
theorem fn_sb_pos {x : fn_N} {a b : Int64} (ha : fn_sa x = (a, b)) (g : a ^^^ b < 0) : fn_sb x = (fn_sl1 x, fn_sg1 x) := by unfold fn_sb; rw [ha]; exact if_pos g
theorem fn_sb_neg {x : fn_N} {a b : Int64} (ha : fn_sa x = (a, b)) (g : ¬ a ^^^ b < 0) : fn_sb x = (fn_max (fn_sl1 x) a, fn_min (fn_sg1 x) b) := by unfold fn_sb; rw [ha]; exact if_neg g
theorem fn_s1_n1 {x : fn_N} {a b c d : Int64} (ha : fn_sa x = (a, b)) (hb : fn_sb x = (c, d)) (g : fn_lt d c ∨ b < a) : fn_s1 x = none := by unfold fn_s1; rw [ha, hb]; exact if_pos g
theorem fn_s1_n2 {x : fn_N} {a b c d : Int64} (ha : fn_sa x = (a, b)) (hb : fn_sb x = (c, d)) (g : ¬ (fn_lt d c ∨ b < a)) (h : ¬ ((x.1 ^^^ c) &&& (x.2.1 ^^^ -1) &&& (fn_down (c ^^^ d) ^^^ -1)) = 0) : fn_s1 x = none := by unfold fn_s1 fn_so; rw [ha, hb]; exact (if_neg g).trans (if_neg h)
theorem fn_s1_s {x : fn_N} {a b c d : Int64} (ha : fn_sa x = (a, b)) (hb : fn_sb x = (c, d)) (g : ¬ (fn_lt d c ∨ b < a)) (h : ((x.1 ^^^ c) &&& (x.2.1 ^^^ -1) &&& (fn_down (c ^^^ d) ^^^ -1)) = 0) : fn_s1 x = some (x.1 &&& fn_down (c ^^^ d) ||| c &&& (fn_down (c ^^^ d) ^^^ -1), x.2.1 &&& fn_down (c ^^^ d), c, d, a, b) := by unfold fn_s1 fn_so; rw [ha, hb]; exact (if_neg g).trans (if_pos h)
def fn_it : Nat → fn_N → Option fn_N
  | 0, x => some x
  | k + 1, x => (fn_it k x).bind fn_s1
/-- SETTLED in three rounds, or EMPTY -/
def fn_settle (x : fn_N) : Option fn_N := fn_it 3 x
theorem fn_it_s {k : Nat} {x y z : fn_N} (h : fn_it k x = some y) (h1 : fn_s1 y = some z) : fn_it (k + 1) x = some z := by rw [fn_it, h]; exact h1
theorem fn_it_n {k : Nat} {x y : fn_N} (h : fn_it k x = some y) (h1 : fn_s1 y = none) : ∀ j, k < j → fn_it j x = none := by
  intro j
  induction j with
  | zero => intro hj; exact absurd hj (Nat.not_lt_zero _)
  | succ j ih =>
    intro hj
    rcases Nat.lt_or_ge k j with q | q
    · rw [fn_it, ih q]; rfl
    · have : j = k := by omega
      subst this
      rw [fn_it, h]; exact h1
theorem fg_eqn {k n : Nat} {x : Int32} (hx : x = nI n) (hn : n < 2 ^ 31) (hk : k ≤ n) (h : x ≤ nI k) : k = n := by
  rcases Nat.lt_or_ge k n with q | q
  · exact absurd h (by rw [hx]; exact nI_ge q hn)
  · omega
