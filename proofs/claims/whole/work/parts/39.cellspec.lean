/-! Cells (section C): kind k1, place k2, map k3, identity k4, room k5, written k6, and a number. -/
theorem fn_nzi {r : Int32} {P : Prop} [Decidable P] (h : r = if P then 1 else 0) : narrow FieldType.boolean (Value.int r) = Value.int r := by
  by_cases q : P
  · rw [h, if_pos q]; rfl
  · rw [h, if_neg q]; rfl
/-- kinds with a number -/
abbrev fc_num (k : Int32) : Prop := k = 1 ∨ k = 4 ∨ k = 7
def fc_cp (k l a : Int32) : Int32 := if l = 0 then k else a
def fc_cpn (n o : fn_N) (l : Int32) : fn_N := if l = 0 then n else if fc_num l then o else n
def fc_store (k1 k6 b : Int32) : Int32 := (if k1 = 0 then k6 else if k1 = 1 then 255 else 0) ||| b
section
variable (n1 n2 n3 n4 n5 n6 o1 o2 o3 o4 o5 o6 : Int64)
def fn_covI : Int32 := if ((n2 ^^^ -1) &&& o2) = 0 ∧ ((n1 ^^^ o1) &&& (n2 ^^^ -1)) = 0 ∧ ¬ fn_lt o3 n3 ∧ ¬ fn_lt n4 o4 ∧ n5 ≤ o5 ∧ o6 ≤ n6 then 1 else 0
/-- all of WITHIN that can be seen without the other cells -/
def fc_ar (k1 k2 k3 k5 k6 l1 l2 l3 l5 l6 : Int32) : Int32 :=
  if k1 = 0 then (if k6 = 0 then 1 else if l1 = 0 then (if k6 &&& (l6 ^^^ -1) = 0 then 1 else if l1 = 1 then 1 else 0) else if l1 = 1 then 1 else 0)
  else if k1 = l1 then (if k1 = 1 then fn_covI n1 n2 n3 n4 n5 n6 o1 o2 o3 o4 o5 o6 else if k1 = 2 then (if k2 = l2 then 1 else 0) else if k1 = 3 then (if k2 = l2 then 1 else 0)
    else if k1 = 4 then (if k2 = l2 then (if l5 < k5 then 0 else fn_covI n1 n2 n3 n4 n5 n6 o1 o2 o3 o4 o5 o6) else 0) else if k1 = 6 then (if k3 = l3 then 1 else 0)
    else if k1 = 7 then (if k2 = l2 then (if k3 = l3 then fn_covI n1 n2 n3 n4 n5 n6 o1 o2 o3 o4 o5 o6 else 0) else 0) else if k1 = 8 then (if k3 = l3 then 1 else 0) else 1) else 0
end
/-- the greatest of so many bytes -/
def fc_top (b : Int32) : Int64 := (1 : Int64) <<< ((8 * b).toInt64 &&& 63) - 1
def fc_read (b : Int32) : fn_N := if 8 ≤ b then fn_any else (0, fc_top b, 0, fc_top b, 0, fc_top b)
theorem fc_read_ok {b : Int32} (h : b = 1 ∨ b = 2 ∨ b = 4) : fn_it 3 (0, -1, 0, (1 : Int64) <<< ((8 * b).toInt64 &&& 63) - 1, -9223372036854775808, 9223372036854775807) = some (0, fc_top b, 0, fc_top b, 0, fc_top b) := by
  rcases h with h | h | h <;> subst h <;> decide +kernel
theorem fc_read_r {r : Int32} {b : Int32} {y : fn_N} (h : b = 1 ∨ b = 2 ∨ b = 4 ∨ b = 8) (g : ¬ 8 ≤ b) (hw : (r = 1 ∧ fn_it 3 (0, -1, 0, (1 : Int64) <<< ((8 * b).toInt64 &&& 63) - 1, -9223372036854775808, 9223372036854775807) = some y) ∨ (r = 0 ∧ fn_it 3 (0, -1, 0, (1 : Int64) <<< ((8 * b).toInt64 &&& 63) - 1, -9223372036854775808, 9223372036854775807) = none)) : fc_read b = y := by
  have h3 : b = 1 ∨ b = 2 ∨ b = 4 := by
    rcases h with h | h | h | h
    · exact Or.inl h
    · exact Or.inr (Or.inl h)
    · exact Or.inr (Or.inr h)
    · exact absurd (by rw [h]; decide) g
  rw [fc_read_ok h3] at hw
  unfold fc_read; rw [if_neg g]
  exact hw.elim (fun q => Option.some.inj q.2) (fun q => absurd q.2 (fun z => by cases z))
