/-! What a relation tells (section Z), as the class does it; none: it can't hold. -/
abbrev fn_NN : Type := Option (fn_N × fn_N)
section
variable (n1 n2 n3 n4 n5 n6 o1 o2 o3 o4 o5 o6 : Int64)
def fn_above : fn_NN := if o3 = -1 then none else if n4 = 0 then none else some ((n1, n2, fn_max n3 (o3 + 1), n4, n5, n6), (o1, o2, o3, fn_min o4 (n4 - 1), o5, o6))
def fn_nbelow : fn_NN := some ((n1, n2, fn_max n3 o3, n4, n5, n6), (o1, o2, o3, fn_min o4 n4, o5, o6))
def fn_greater : fn_NN := if o5 = 9223372036854775807 then none else if n6 = -9223372036854775808 then none else some ((n1, n2, n3, n4, fn_smax n5 (o5 + 1), n6), (o1, o2, o3, o4, o5, fn_smin o6 (n6 - 1)))
def fn_nless : fn_NN := some ((n1, n2, n3, n4, fn_smax n5 o5, n6), (o1, o2, o3, o4, o5, fn_smin o6 n6))
def fn_same : fn_NN := if ((n1 ^^^ o1) &&& (n2 ^^^ -1)) &&& (o2 ^^^ -1) = 0 then some ((n1 ||| o1, n2 &&& o2, fn_max n3 o3, fn_min n4 o4, fn_smax n5 o5, fn_smin n6 o6), (n1 ||| o1, n2 &&& o2, fn_max n3 o3, fn_min n4 o4, fn_smax n5 o5, fn_smin n6 o6)) else none
def fn_exc (b : Int64) : Option fn_N := if n2 = 0 then (if n1 = b then none else some (n1, n2, n3 + (if n3 = b then 1 else 0), n4 - (if n4 = b then 1 else 0), n5 + (if n5 = b then 1 else 0), n6 - (if n6 = b then 1 else 0))) else some (n1, n2, n3 + (if n3 = b then 1 else 0), n4 - (if n4 = b then 1 else 0), n5 + (if n5 = b then 1 else 0), n6 - (if n6 = b then 1 else 0))
def fn_nsame1 (x : fn_N) : fn_NN := if n2 = 0 then (match fn_exc o1 o2 o3 o4 o5 o6 n1 with | none => none | some y => some (x, y)) else some (x, (o1, o2, o3, o4, o5, o6))
def fn_nsame : fn_NN := if o2 = 0 then (match fn_exc n1 n2 n3 n4 n5 n6 o1 with | none => none | some x => fn_nsame1 n1 n2 o1 o2 o3 o4 o5 o6 x) else fn_nsame1 n1 n2 o1 o2 o3 o4 o5 o6 (n1, n2, n3, n4, n5, n6)
def fn_meet1 : fn_N := if o2 = 0 then (if fn_bc o1 = 1 then (n1 ||| o1, n2 &&& (o1 ^^^ -1), n3, n4, n5, n6) else (n1, n2, n3, n4, n5, n6)) else (n1, n2, n3, n4, n5, n6)
def fn_meet : fn_NN := if ((n1 ||| n2) &&& (o1 ||| o2)) = 0 then none else some (fn_meet1 n1 n2 n3 n4 n5 n6 o1 o2, fn_meet1 o1 o2 o3 o4 o5 o6 n1 n2)
def fn_nmeet : fn_NN := if n1 &&& o1 = 0 then some ((n1, (if o2 = 0 then n2 &&& (o1 ^^^ -1) else n2), n3, n4, n5, n6), (o1, (if n2 = 0 then o2 &&& (n1 ^^^ -1) else o2), o3, o4, o5, o6)) else none
def fn_turn (r : fn_NN) : fn_NN := r.map (fun q => (q.2, q.1))
def fn_rel (op : Int32) : fn_NN :=
  if op = 0 then fn_same n1 n2 n3 n4 n5 n6 o1 o2 o3 o4 o5 o6 else if op = 1 then fn_above n1 n2 n3 n4 n5 n6 o1 o2 o3 o4 o5 o6 else if op = 2 then fn_nbelow n1 n2 n3 n4 n5 n6 o1 o2 o3 o4 o5 o6 else if op = 3 then fn_meet n1 n2 n3 n4 n5 n6 o1 o2 o3 o4 o5 o6
  else if op = 4 then fn_nsame n1 n2 n3 n4 n5 n6 o1 o2 o3 o4 o5 o6 else if op = 5 then fn_greater n1 n2 n3 n4 n5 n6 o1 o2 o3 o4 o5 o6 else if op = 6 then fn_nless n1 n2 n3 n4 n5 n6 o1 o2 o3 o4 o5 o6
  else if op = 7 then fn_turn (fn_above o1 o2 o3 o4 o5 o6 n1 n2 n3 n4 n5 n6) else if op = 8 then fn_turn (fn_nbelow o1 o2 o3 o4 o5 o6 n1 n2 n3 n4 n5 n6) else if op = 9 then fn_turn (fn_greater o1 o2 o3 o4 o5 o6 n1 n2 n3 n4 n5 n6) else if op = 10 then fn_turn (fn_nless o1 o2 o3 o4 o5 o6 n1 n2 n3 n4 n5 n6)
  else fn_nmeet n1 n2 n3 n4 n5 n6 o1 o2 o3 o4 o5 o6
end
/-- both settled, or it can't hold -/
def fn_sets (r : fn_NN) : fn_NN := match r with
  | none => none
  | some q => match fn_it 3 q.1 with
    | none => none
    | some a => match fn_it 3 q.2 with
      | none => none
      | some b => some (a, b)
theorem fn_turn_s {r : fn_NN} {x y : fn_N} (h : r = some (x, y)) : fn_turn r = some (y, x) := by subst h; rfl
theorem fn_turn_n {r : fn_NN} (h : r = none) : fn_turn r = none := by subst h; rfl
theorem fn_sets_s {r : fn_NN} {x y a b : fn_N} (h : r = some (x, y)) (h1 : fn_it 3 x = some a) (h2 : fn_it 3 y = some b) : fn_sets r = some (a, b) := by subst h; unfold fn_sets; simp only [h1, h2]
theorem fn_sets_0 {r : fn_NN} (h : r = none) : fn_sets r = none := by subst h; rfl
theorem fn_sets_1 {r : fn_NN} {x y : fn_N} (h : r = some (x, y)) (h1 : fn_it 3 x = none) : fn_sets r = none := by subst h; unfold fn_sets; simp only [h1]
theorem fn_sets_2 {r : fn_NN} {x y a : fn_N} (h : r = some (x, y)) (h1 : fn_it 3 x = some a) (h2 : fn_it 3 y = none) : fn_sets r = none := by subst h; unfold fn_sets; simp only [h1, h2]
/-! Operations and relations, wide or narrow. -/
def fn_rawT (x y : fn_N) (op : Int32) : fn_N := fn_raw x.1 x.2.1 x.2.2.1 x.2.2.2.1 x.2.2.2.2.1 x.2.2.2.2.2 y.1 y.2.1 y.2.2.1 y.2.2.2.1 y.2.2.2.2.1 y.2.2.2.2.2 op
def fn_relT (x y : fn_N) (op : Int32) : fn_NN := fn_rel x.1 x.2.1 x.2.2.1 x.2.2.2.1 x.2.2.2.2.1 x.2.2.2.2.2 y.1 y.2.1 y.2.2.1 y.2.2.2.1 y.2.2.2.2.1 y.2.2.2.2.2 op
def fn_narT (x : fn_N) : fn_N := fn_nar x.1 x.2.1 x.2.2.1 x.2.2.2.1 x.2.2.2.2.1 x.2.2.2.2.2
/-- a shift by an exact number goes by its lowest five bits -/
def fn_by5 (op : Int32) (y : fn_N) : fn_N := if op < 8 then y else if 10 < op then y else if y.2.1 = 0 then fn_ex (y.1 &&& 31) else y
/-- narrow operations, of numbers that are narrowed: nothing is known of a signed shift of what may be negative -/
def fn_opk (op : Int32) (x y : fn_N) : fn_N := if op = 10 then (if fn_lt 2147483647 x.2.2.2.1 then fn_narT fn_any else fn_narT (fn_fin (fn_rawT x y 9))) else fn_narT (fn_fin (fn_rawT x y op))
def fn_op (op : Int32) (nar : Int32) (x y : fn_N) : fn_N := if nar = 0 then fn_fin (fn_rawT x y op) else fn_opk op (fn_narT x) (fn_by5 op (fn_narT y))
theorem fn_by5_a {op : Int32} {y z : fn_N} (h : fn_narT y = z) (g : op < 8) : fn_by5 op (fn_narT y) = z := by rw [h]; unfold fn_by5; rw [if_pos g]
theorem fn_by5_b {op : Int32} {y z : fn_N} (h : fn_narT y = z) (g : 10 < op) : fn_by5 op (fn_narT y) = z := by rw [h]; unfold fn_by5; rw [if_pos g]; exact ite_self _
theorem fn_by5_n {op : Int32} {y z : fn_N} (h : fn_narT y = z) (g : ¬ z.2.1 = 0) : fn_by5 op (fn_narT y) = z := by rw [h]; unfold fn_by5; rw [if_neg g, ite_self, ite_self]
theorem fn_by5_s {op : Int32} {y z : fn_N} (h : fn_narT y = z) (g1 : ¬ op < 8) (g2 : ¬ 10 < op) (g : z.2.1 = 0) : fn_by5 op (fn_narT y) = fn_ex (z.1 &&& 31) := by rw [h]; unfold fn_by5; rw [if_neg g1, if_neg g2, if_pos g]
theorem fn_op_w {op nar : Int32} {x y z : fn_N} (g : nar = 0) (h : fn_fin (fn_rawT x y op) = z) : fn_op op nar x y = z := by unfold fn_op; rw [if_pos g]; exact h
theorem fn_op_any {op nar : Int32} {x y x1 z : fn_N} (g : ¬ nar = 0) (hx : fn_narT x = x1) (g1 : op = 10) (g2 : fn_lt 2147483647 x1.2.2.2.1) (h : fn_narT fn_any = z) : fn_op op nar x y = z := by
  unfold fn_op fn_opk; rw [if_neg g, hx, if_pos g1, if_pos g2]; exact h
theorem fn_op_9 {op nar : Int32} {x y x1 y1 w z : fn_N} (g : ¬ nar = 0) (hx : fn_narT x = x1) (hy : fn_by5 op (fn_narT y) = y1) (g1 : op = 10) (g2 : ¬ fn_lt 2147483647 x1.2.2.2.1) (h : fn_fin (fn_rawT x1 y1 9) = w) (h2 : fn_narT w = z) : fn_op op nar x y = z := by
  unfold fn_op fn_opk; rw [if_neg g, hx, if_pos g1, if_neg g2, hy, h]; exact h2
theorem fn_op_n {op nar : Int32} {x y x1 y1 w z : fn_N} (g : ¬ nar = 0) (hx : fn_narT x = x1) (hy : fn_by5 op (fn_narT y) = y1) (g1 : ¬ op = 10) (h : fn_fin (fn_rawT x1 y1 op) = w) (h2 : fn_narT w = z) : fn_op op nar x y = z := by
  unfold fn_op fn_opk; rw [if_neg g, hx, if_neg g1, hy, h]; exact h2
/-- what a relation tells, wide -/
def fn_telw (op : Int32) (x y : fn_N) : fn_NN := fn_sets (fn_relT x y op)
abbrev fn_sgn (op : Int32) : Prop := op = 5 ∨ op = 6 ∨ op = 9 ∨ op = 10
def fn_most (op : Int32) : Int64 := if fn_sgn op then 2147483647 else 4294967295
/-- what a relation tells, wide or narrow -/
def fn_tell (op nar : Int32) (x y : fn_N) : fn_NN :=
  if nar = 0 then fn_telw op x y
  else if fn_lt (fn_most op) x.2.2.2.1 ∨ fn_lt (fn_most op) y.2.2.2.1 then (if fn_sgn op then some (x, y) else (fn_telw op (fn_narT x) (fn_narT y)).map (fun _ => (x, y)))
  else fn_telw op x y
theorem fn_tell_w {op nar : Int32} {x y : fn_N} {z : fn_NN} (g : nar = 0) (h : fn_telw op x y = z) : fn_tell op nar x y = z := by unfold fn_tell; rw [if_pos g]; exact h
theorem fn_tell_l {op nar : Int32} {x y : fn_N} {z : fn_NN} (g : ¬ nar = 0) (g1 : ¬ fn_lt (fn_most op) x.2.2.2.1) (g2 : ¬ fn_lt (fn_most op) y.2.2.2.1) (h : fn_telw op x y = z) : fn_tell op nar x y = z := by
  unfold fn_tell; rw [if_neg g, if_neg (not_or.mpr ⟨g1, g2⟩)]; exact h
theorem fn_tell_s {op nar : Int32} {x y : fn_N} (g : ¬ nar = 0) (g1 : fn_lt (fn_most op) x.2.2.2.1 ∨ fn_lt (fn_most op) y.2.2.2.1) (g2 : fn_sgn op) : fn_tell op nar x y = some (x, y) := by
  unfold fn_tell; rw [if_neg g, if_pos g1, if_pos g2]
theorem fn_tell_n {op nar : Int32} {x y x1 y1 : fn_N} {z : fn_NN} (g : ¬ nar = 0) (g1 : fn_lt (fn_most op) x.2.2.2.1 ∨ fn_lt (fn_most op) y.2.2.2.1) (g2 : ¬ fn_sgn op) (hx : fn_narT x = x1) (hy : fn_narT y = y1) (h : fn_telw op x1 y1 = z) : fn_tell op nar x y = z.map (fun _ => (x, y)) := by
  unfold fn_tell; rw [if_neg g, if_pos g1, if_neg g2, hx, hy, h]
theorem fn_most_s {op : Int32} (g : fn_sgn op) : fn_most op = 2147483647 := by unfold fn_most; rw [if_pos g]
theorem fn_most_u {op : Int32} (g : ¬ fn_sgn op) : fn_most op = 4294967295 := by unfold fn_most; rw [if_neg g]
