/-! What a relation tells (section Z), as the class does it; none: it can't hold. -/
abbrev fn_NN : Type := Option (fn_N × fn_N)
section
variable (n1 n2 n3 n4 n5 n6 o1 o2 o3 o4 o5 o6 : Int64)
def fn_above : fn_NN := if o3 = -1 then none else if n4 = 0 then none else some ((n1, n2, fn_max n3 (o3 + 1), n4, n5, n6), (o1, o2, o3, fn_min o4 (n4 - 1), o5, o6))
def fn_nbelow : fn_NN := some ((n1, n2, fn_max n3 o3, n4, n5, n6), (o1, o2, o3, fn_min o4 n4, o5, o6))
def fn_greater : fn_NN := if o5 = 9223372036854775807 then none else if n6 = -9223372036854775808 then none else some ((n1, n2, n3, n4, fn_smax n5 (o5 + 1), n6), (o1, o2, o3, o4, o5, fn_smin o6 (n6 - 1)))
def fn_nless : fn_NN := some ((n1, n2, n3, n4, fn_smax n5 o5, n6), (o1, o2, o3, o4, o5, fn_smin o6 n6))
def fn_same : fn_NN := if ((n1 ^^^ o1) &&& (n2 ^^^ -1)) &&& (o2 ^^^ -1) = 0 then some ((n1 ||| o1, n2 &&& o2, fn_max n3 o3, fn_min n4 o4, fn_smax n5 o5, fn_smin n6 o6), (n1 ||| o1, n2 &&& o2, fn_max n3 o3, fn_min n4 o4, fn_smax n5 o5, fn_smin n6 o6)) else none
def fn_exc (b : Int64) : Option fn_N := if n2 = 0 then (if n1 = b then none else some (n1, n2, n3 + (if n3 = b then 1 else 0), n4 - (if n4 = b then 1 else 0), n5 + (if n5 = b then 1 else 0), n6 - (if n6 = b then 1 else 0))) else some (n1, n2, n3 + (if n3 = b then 1 else 0), n4 - (if n4 = b then 1 else 0), n5 + (if n5 = b then 1 else 0), n6 - (if n6 = b then 1 else 0))
def fn_nsame1 (x : fn_N) : fn_NN := if n2 = 0 then (match fn_exc o1 o2 o3 o4 o5 o6 n1 with | none => none | some y => some (x, y)) else some (x, (o1, o2, o3, o4, o5, o6))
def fn_nsame : fn_NN := if o2 = 0 then (match fn_exc n1 n2 n3 n4 n5 n6 o1 with | none => none | some x => fn_nsame1 n1 n2 o1 o2 o3 o4 o5 o6 x) else fn_nsame1 n1 n2 o1 o2 o3 o4 o5 o6 (n1, n2, n3, n4, n5, n6)
def fn_meet1 : fn_N := if o2 = 0 then (if fn_bc o1 = 1 then (n1 ||| o1, n2 &&& (o1 ^^^ -1), n3, n4, n5, n6) else (n1, n2, n3, n4, n5, n6)) else (n1, n2, n3, n4, n5, n6)
def fn_meet : fn_NN := if ((n1 ||| n2) &&& (o1 ||| o2)) = 0 then none else some (fn_meet1 n1 n2 n3 n4 n5 n6 o1 o2, fn_meet1 o1 o2 o3 o4 o5 o6 n1 n2)
def fn_nmeet : fn_NN := if n1 &&& o1 = 0 then some ((n1, (if o2 = 0 then n2 &&& (o1 ^^^ -1) else n2), n3, n4, n5, n6), (o1, (if n2 = 0 then o2 &&& (n1 ^^^ -1) else o2), o3, o4, o5, o6)) else none
def fn_turn (r : fn_NN) : fn_NN := r.map (fun q => (q.2, q.1))
def fn_rel (op : Int32) : fn_NN :=
  if op = 0 then fn_same n1 n2 n3 n4 n5 n6 o1 o2 o3 o4 o5 o6 else if op = 1 then fn_above n1 n2 n3 n4 n5 n6 o1 o2 o3 o4 o5 o6 else if op = 2 then fn_nbelow n1 n2 n3 n4 n5 n6 o1 o2 o3 o4 o5 o6 else if op = 3 then fn_meet n1 n2 n3 n4 n5 n6 o1 o2 o3 o4 o5 o6
  else if op = 4 then fn_nsame n1 n2 n3 n4 n5 n6 o1 o2 o3 o4 o5 o6 else if op = 5 then fn_greater n1 n2 n3 n4 n5 n6 o1 o2 o3 o4 o5 o6 else if op = 6 then fn_nless n1 n2 n3 n4 n5 n6 o1 o2 o3 o4 o5 o6
  else if op = 7 then fn_turn (fn_above o1 o2 o3 o4 o5 o6 n1 n2 n3 n4 n5 n6) else if op = 8 then fn_turn (fn_nbelow o1 o2 o3 o4 o5 o6 n1 n2 n3 n4 n5 n6) else if op = 9 then fn_turn (fn_greater o1 o2 o3 o4 o5 o6 n1 n2 n3 n4 n5 n6) else if op = 10 then fn_turn (fn_nless o1 o2 o3 o4 o5 o6 n1 n2 n3 n4 n5 n6)
  else fn_nmeet n1 n2 n3 n4 n5 n6 o1 o2 o3 o4 o5 o6
end
/-- both settled, or it can't hold -/
def fn_sets (r : fn_NN) : fn_NN := match r with
  | none => none
  | some q => match fn_it 3 q.1 with
    | none => none
    | some a => match fn_it 3 q.2 with
      | none => none
      | some b => some (a, b)
theorem fn_turn_s {r : fn_NN} {x y : fn_N} (h : r = some (x, y)) : fn_turn r = some (y, x) := by subst h; rfl
theorem fn_turn_n {r : fn_NN} (h : r = none) : fn_turn r = none := by subst h; rfl
theorem fn_sets_s {r : fn_NN} {x y a b : fn_N} (h : r = some (x, y)) (h1 : fn_it 3 x = some a) (h2 : fn_it 3 y = some b) : fn_sets r = some (a, b) := by subst h; unfold fn_sets; simp only [h1, h2]
theorem fn_sets_0 {r : fn_NN} (h : r = none) : fn_sets r = none := by subst h; rfl
theorem fn_sets_1 {r : fn_NN} {x y : fn_N} (h : r = some (x, y)) (h1 : fn_it 3 x = none) : fn_sets r = none := by subst h; unfold fn_sets; simp only [h1]
theorem fn_sets_2 {r : fn_NN} {x y a : fn_N} (h : r = some (x, y)) (h1 : fn_it 3 x = some a) (h2 : fn_it 3 y = none) : fn_sets r = none := by subst h; unfold fn_sets; simp only [h1, h2]
