/-! Operations and relations, wide or narrow. -/
def fn_rawT (x y : fn_N) (op : Int32) : fn_N := fn_raw x.1 x.2.1 x.2.2.1 x.2.2.2.1 x.2.2.2.2.1 x.2.2.2.2.2 y.1 y.2.1 y.2.2.1 y.2.2.2.1 y.2.2.2.2.1 y.2.2.2.2.2 op
def fn_relT (x y : fn_N) (op : Int32) : fn_NN := fn_rel x.1 x.2.1 x.2.2.1 x.2.2.2.1 x.2.2.2.2.1 x.2.2.2.2.2 y.1 y.2.1 y.2.2.1 y.2.2.2.1 y.2.2.2.2.1 y.2.2.2.2.2 op
def fn_narT (x : fn_N) : fn_N := fn_nar x.1 x.2.1 x.2.2.1 x.2.2.2.1 x.2.2.2.2.1 x.2.2.2.2.2
/-- a shift by an exact number goes by its lowest five bits -/
def fn_by5 (op : Int32) (y : fn_N) : fn_N := if op < 8 then y else if 10 < op then y else if y.2.1 = 0 then fn_ex (y.1 &&& 31) else y
/-- narrow operations, of numbers that are narrowed: nothing is known of a signed shift of what may be negative -/
def fn_opk (op : Int32) (x y : fn_N) : fn_N := if op = 10 then (if fn_lt 2147483647 x.2.2.2.1 then fn_narT fn_any else fn_narT (fn_fin (fn_rawT x y 9))) else fn_narT (fn_fin (fn_rawT x y op))
def fn_op (op : Int32) (nar : Int32) (x y : fn_N) : fn_N := if nar = 0 then fn_fin (fn_rawT x y op) else fn_opk op (fn_narT x) (fn_by5 op (fn_narT y))
theorem fn_by5_a {op : Int32} {y z : fn_N} (h : fn_narT y = z) (g : op < 8) : fn_by5 op (fn_narT y) = z := by rw [h]; unfold fn_by5; rw [if_pos g]
theorem fn_by5_b {op : Int32} {y z : fn_N} (h : fn_narT y = z) (g : 10 < op) : fn_by5 op (fn_narT y) = z := by rw [h]; unfold fn_by5; rw [if_pos g]; exact ite_self _
theorem fn_by5_n {op : Int32} {y z : fn_N} (h : fn_narT y = z) (g : ¬ z.2.1 = 0) : fn_by5 op (fn_narT y) = z := by rw [h]; unfold fn_by5; rw [if_neg g, ite_self, ite_self]
theorem fn_by5_s {op : Int32} {y z : fn_N} (h : fn_narT y = z) (g1 : ¬ op < 8) (g2 : ¬ 10 < op) (g : z.2.1 = 0) : fn_by5 op (fn_narT y) = fn_ex (z.1 &&& 31) := by rw [h]; unfold fn_by5; rw [if_neg g1, if_neg g2, if_pos g]
theorem fn_op_w {op nar : Int32} {x y z : fn_N} (g : nar = 0) (h : fn_fin (fn_rawT x y op) = z) : fn_op op nar x y = z := by unfold fn_op; rw [if_pos g]; exact h
theorem fn_op_any {op nar : Int32} {x y x1 z : fn_N} (g : ¬ nar = 0) (hx : fn_narT x = x1) (g1 : op = 10) (g2 : fn_lt 2147483647 x1.2.2.2.1) (h : fn_narT fn_any = z) : fn_op op nar x y = z := by
  unfold fn_op fn_opk; rw [if_neg g, hx, if_pos g1, if_pos g2]; exact h
theorem fn_op_9 {op nar : Int32} {x y x1 y1 w z : fn_N} (g : ¬ nar = 0) (hx : fn_narT x = x1) (hy : fn_by5 op (fn_narT y) = y1) (g1 : op = 10) (g2 : ¬ fn_lt 2147483647 x1.2.2.2.1) (h : fn_fin (fn_rawT x1 y1 9) = w) (h2 : fn_narT w = z) : fn_op op nar x y = z := by
  unfold fn_op fn_opk; rw [if_neg g, hx, if_pos g1, if_neg g2, hy, h]; exact h2
theorem fn_op_n {op nar : Int32} {x y x1 y1 w z : fn_N} (g : ¬ nar = 0) (hx : fn_narT x = x1) (hy : fn_by5 op (fn_narT y) = y1) (g1 : ¬ op = 10) (h : fn_fin (fn_rawT x1 y1 op) = w) (h2 : fn_narT w = z) : fn_op op nar x y = z := by
  unfold fn_op fn_opk; rw [if_neg g, hx, if_neg g1, hy, h]; exact h2
/-- what a relation tells, wide -/
def fn_telw (op : Int32) (x y : fn_N) : fn_NN := fn_sets (fn_relT x y op)
abbrev fn_sgn (op : Int32) : Prop := op = 5 ∨ op = 6 ∨ op = 9 ∨ op = 10
def fn_most (op : Int32) : Int64 := if fn_sgn op then 2147483647 else 4294967295
/-- what a relation tells, wide or narrow -/
def fn_tell (op nar : Int32) (x y : fn_N) : fn_NN :=
  if nar = 0 then fn_telw op x y
  else if fn_lt (fn_most op) x.2.2.2.1 ∨ fn_lt (fn_most op) y.2.2.2.1 then (if fn_sgn op then some (x, y) else (fn_telw op (fn_narT x) (fn_narT y)).map (fun _ => (x, y)))
  else fn_telw op x y
theorem fn_tell_w {op nar : Int32} {x y : fn_N} {z : fn_NN} (g : nar = 0) (h : fn_telw op x y = z) : fn_tell op nar x y = z := by unfold fn_tell; rw [if_pos g]; exact h
theorem fn_tell_l {op nar : Int32} {x y : fn_N} {z : fn_NN} (g : ¬ nar = 0) (g1 : ¬ fn_lt (fn_most op) x.2.2.2.1) (g2 : ¬ fn_lt (fn_most op) y.2.2.2.1) (h : fn_telw op x y = z) : fn_tell op nar x y = z := by
  unfold fn_tell; rw [if_neg g, if_neg (not_or.mpr ⟨g1, g2⟩)]; exact h
theorem fn_tell_s {op nar : Int32} {x y : fn_N} (g : ¬ nar = 0) (g1 : fn_lt (fn_most op) x.2.2.2.1 ∨ fn_lt (fn_most op) y.2.2.2.1) (g2 : fn_sgn op) : fn_tell op nar x y = some (x, y) := by
  unfold fn_tell; rw [if_neg g, if_pos g1, if_pos g2]
theorem fn_tell_n {op nar : Int32} {x y x1 y1 : fn_N} {z : fn_NN} (g : ¬ nar = 0) (g1 : fn_lt (fn_most op) x.2.2.2.1 ∨ fn_lt (fn_most op) y.2.2.2.1) (g2 : ¬ fn_sgn op) (hx : fn_narT x = x1) (hy : fn_narT y = y1) (h : fn_telw op x1 y1 = z) : fn_tell op nar x y = z.map (fun _ => (x, y)) := by
  unfold fn_tell; rw [if_neg g, if_pos g1, if_neg g2, hx, hy, h]
theorem fn_most_s {op : Int32} (g : fn_sgn op) : fn_most op = 2147483647 := by unfold fn_most; rw [if_pos g]
theorem fn_most_u {op : Int32} (g : ¬ fn_sgn op) : fn_most op = 4294967295 := by unfold fn_most; rw [if_neg g]
