/-! The operations of section Z, as the class does them (what is known of x: n1 .. n6, of y: o1 .. o6). -/
def fn_half (x b : Int64) : Int64 := ((x.toUInt64 >>> ((1 : Int32).toInt64.toUInt64 &&& Int64.toUInt64 63)).toInt64 / b) <<< ((1 : Int32).toInt64 &&& 63)
/-- the quotient without sign; by 0 it is 0 -/
def fn_quo (x b : Int64) : Int64 := if b = 0 then 0 else if b < 0 then (if fn_lt x b then 0 else 1) else if x < 0 then (if fn_lt (x - fn_half x b * b) b then fn_half x b else fn_half x b + 1) else x / b
/-- bytes in turn -/
def fn_swap (x : Int64) : Nat → Int64
  | 0 => 0
  | k + 1 => fn_swap x k <<< ((8 : Int32).toInt64 &&& 63) ||| ((x.toUInt64 >>> ((8 * nI k).toInt64.toUInt64 &&& Int64.toUInt64 63)).toInt64 &&& 255)
abbrev fn_any : fn_N := (0, -1, 0, -1, -9223372036854775808, 9223372036854775807)
abbrev fn_ex (x : Int64) : fn_N := (x, 0, x, x, x, x)
theorem fn_or1 {r : Int32} {P Q : Prop} (h : (r = 1 ∧ P) ∨ (r = 0 ∧ Q)) (c : ¬ r = 0) : P := h.elim (fun z => z.2) (fun z => absurd z.1 c)
theorem fn_or0 {r : Int32} {P Q : Prop} (h : (r = 1 ∧ P) ∨ (r = 0 ∧ Q)) (c : r = 0) : Q := h.elim (fun z => absurd (z.1.symm.trans c) (by decide)) (fun z => z.2)
def fn_ush (x : Int64) (k : Int32) : Int64 := (x.toUInt64 >>> (k.toInt64.toUInt64 &&& Int64.toUInt64 63)).toInt64
/-- how many bits are 1, as the library counts them -/
def fn_b1 (x : Int64) : Int64 := x - (fn_ush x 1 &&& 6148914691236517205)
def fn_b2 (x : Int64) : Int64 := (x &&& 3689348814741910323) + (fn_ush x 2 &&& 3689348814741910323)
def fn_b3 (x : Int64) : Int64 := (x + fn_ush x 4) &&& 1085102592571150095
def fn_b4 (x : Int64) (k : Int32) : Int64 := x + fn_ush x k
def fn_bc (x : Int64) : Int32 := (fn_b4 (fn_b4 (fn_b4 (fn_b3 (fn_b2 (fn_b1 x))) 8) 16) 32).toInt32 &&& 127
def fn_lz (v k : Int64) : Int32 := fn_bc (((v ||| k) ^^^ -1) &&& ((v ||| k) - 1))
section
variable (n1 n2 n3 n4 n5 n6 o1 o2 o3 o4 o5 o6 : Int64)
def fn_au : Int64 := (n2 + o2 + (n1 + o1)) ^^^ (n1 + o1) ||| n2 ||| o2
def fn_add : fn_N := ((n1 + o1) &&& (fn_au n1 n2 o1 o2 ^^^ -1), fn_au n1 n2 o1 o2, (if fn_lt (n4 + o4) n4 then 0 else n3 + o3), (if fn_lt (n4 + o4) n4 then -1 else n4 + o4),
  (if (n5 ^^^ (n5 + o5)) &&& (o5 ^^^ (n5 + o5)) < 0 then -9223372036854775808 else if (n6 ^^^ (n6 + o6)) &&& (o6 ^^^ (n6 + o6)) < 0 then -9223372036854775808 else n5 + o5),
  (if (n5 ^^^ (n5 + o5)) &&& (o5 ^^^ (n5 + o5)) < 0 then 9223372036854775807 else if (n6 ^^^ (n6 + o6)) &&& (o6 ^^^ (n6 + o6)) < 0 then 9223372036854775807 else n6 + o6))
def fn_su : Int64 := ((n1 - o1) + n2) ^^^ ((n1 - o1) - o2) ||| n2 ||| o2
def fn_sub : fn_N := ((n1 - o1) &&& (fn_su n1 n2 o1 o2 ^^^ -1), fn_su n1 n2 o1 o2, (if fn_lt n3 o4 then 0 else n3 - o4), (if fn_lt n3 o4 then -1 else n4 - o3),
  (if (n5 ^^^ o6) &&& (n5 ^^^ (n5 - o6)) < 0 then -9223372036854775808 else if (n6 ^^^ o5) &&& (n6 ^^^ (n6 - o5)) < 0 then -9223372036854775808 else n5 - o6),
  (if (n5 ^^^ o6) &&& (n5 ^^^ (n5 - o6)) < 0 then 9223372036854775807 else if (n6 ^^^ o5) &&& (n6 ^^^ (n6 - o5)) < 0 then 9223372036854775807 else n6 - o5))
def fn_div : fn_N := if o2 = 0 then (if o1 = 0 then fn_ex 0 else (0, -1, fn_quo n3 o1, fn_quo n4 o1, -9223372036854775808, 9223372036854775807)) else (0, -1, 0, n4, -9223372036854775808, 9223372036854775807)
def fn_rest : fn_N := if o2 = 0 then (if o1 = 0 then (n1, n2, n3, n4, n5, n6) else if fn_lt n4 o1 then (n1, n2, n3, n4, n5, n6) else (0, -1, 0, o1 - 1, -9223372036854775808, 9223372036854775807)) else (0, -1, 0, n4, -9223372036854775808, 9223372036854775807)
def fn_and : fn_N := (n1 &&& o1, ((n1 ||| n2) &&& (o1 ||| o2)) &&& ((n1 &&& o1) ^^^ -1), 0, fn_min (fn_min (-1) n4) o4, -9223372036854775808, 9223372036854775807)
def fn_mul1 : fn_N := (0, (if fn_lz n1 n2 + fn_lz o1 o2 < 64 then (-1) <<< ((fn_lz n1 n2 + fn_lz o1 o2).toInt64 &&& 63) else 0), (if fn_lt 4294967295 n4 then 0 else if fn_lt 4294967295 o4 then 0 else n3 * o3), (if fn_lt 4294967295 n4 then -1 else if fn_lt 4294967295 o4 then -1 else n4 * o4), -9223372036854775808, 9223372036854775807)
def fn_mul : fn_N := if n2 = 0 then (if o2 = 0 then fn_ex (n1 * o1) else fn_mul1 n1 n2 n3 n4 o1 o2 o3 o4) else fn_mul1 n1 n2 n3 n4 o1 o2 o3 o4
abbrev fn_by : Int32 := o1.toInt32 &&& 63
abbrev fn_shl (x : Int64) (k : Int32) : Int64 := x <<< (k.toInt64 &&& 63)
abbrev fn_shr (x : Int64) (k : Int32) : Int64 := x >>> (k.toInt64 &&& 63)
abbrev fn_shu (x : Int64) (k : Int32) : Int64 := (x.toUInt64 >>> (k.toInt64.toUInt64 &&& Int64.toUInt64 63)).toInt64
def fn_shift (op : Int32) : fn_N := if o2 = 0 then (if op = 8 then (fn_shl n1 (fn_by o1), fn_shl n2 (fn_by o1), (if fn_shu (fn_shl n4 (fn_by o1)) (fn_by o1) = n4 then fn_shl n3 (fn_by o1) else 0), (if fn_shu (fn_shl n4 (fn_by o1)) (fn_by o1) = n4 then fn_shl n4 (fn_by o1) else -1), -9223372036854775808, 9223372036854775807)
  else if op = 9 then (fn_shu n1 (fn_by o1), fn_shu n2 (fn_by o1), fn_shu n3 (fn_by o1), fn_shu n4 (fn_by o1), -9223372036854775808, 9223372036854775807)
  else (fn_shr n1 (fn_by o1), fn_shr n2 (fn_by o1), 0, -1, fn_shr n5 (fn_by o1), fn_shr n6 (fn_by o1))) else fn_any
def fn_swp : fn_N := if o2 = 0 ∧ o1 = 2 then (if n2 = 0 then fn_ex (fn_swap n1 2) else (0, -1, 0, 65535, -9223372036854775808, 9223372036854775807)) else if o2 = 0 ∧ o1 = 4 then (if n2 = 0 then fn_ex (fn_swap n1 4) else (0, -1, 0, 4294967295, -9223372036854775808, 9223372036854775807)) else (if n2 = 0 then fn_ex (fn_swap n1 8) else fn_any)
def fn_cut (b : Int64) : fn_N := if fn_lt b n4 then fn_and n1 n2 n4 b 0 b else (n1, n2, n3, n4, n5, n6)
/-- operation op, not yet settled -/
def fn_raw (op : Int32) : fn_N :=
  if op = 0 then fn_add n1 n2 n3 n4 n5 n6 o1 o2 o3 o4 o5 o6 else if op = 1 then fn_sub n1 n2 n3 n4 n5 n6 o1 o2 o3 o4 o5 o6 else if op = 2 then fn_mul n1 n2 n3 n4 o1 o2 o3 o4 else if op = 3 then fn_div n3 n4 o1 o2 else if op = 4 then fn_rest n1 n2 n3 n4 n5 n6 o1 o2
  else if op = 5 then fn_and n1 n2 n4 o1 o2 o4 else if op = 6 then (n1 ||| o1, (n2 ||| o2) &&& ((n1 ||| o1) ^^^ -1), fn_max (fn_max 0 n3) o3, -1, -9223372036854775808, 9223372036854775807) else if op = 7 then ((n1 ^^^ o1) &&& ((n2 ||| o2) ^^^ -1), n2 ||| o2, 0, -1, -9223372036854775808, 9223372036854775807)
  else if op = 11 then fn_sub 0 0 0 0 0 0 n1 n2 n3 n4 n5 n6 else if op = 12 then (o1, o2, o3, o4, o5, o6) else if op = 13 then fn_swp n1 n2 o1 o2
  else if op = 14 then (if o2 = 0 ∧ o1 = 2 then fn_cut n1 n2 n3 n4 n5 n6 65535 else if o2 = 0 ∧ o1 = 4 then fn_cut n1 n2 n3 n4 n5 n6 4294967295 else fn_cut n1 n2 n3 n4 n5 n6 (-1)) else fn_shift n1 n2 n3 n4 n5 n6 o1 o2 op
/-- narrowed: its low 32 bits -/
def fn_nar0 : fn_N := (n1 &&& 4294967295, n2 &&& 4294967295,
  (if (n3.toUInt64 >>> ((32 : Int32).toInt64.toUInt64 &&& Int64.toUInt64 63)).toInt64 = (n4.toUInt64 >>> ((32 : Int32).toInt64.toUInt64 &&& Int64.toUInt64 63)).toInt64 then n3 &&& 4294967295 else 0),
  (if (n3.toUInt64 >>> ((32 : Int32).toInt64.toUInt64 &&& Int64.toUInt64 63)).toInt64 = (n4.toUInt64 >>> ((32 : Int32).toInt64.toUInt64 &&& Int64.toUInt64 63)).toInt64 then n4 &&& 4294967295 else 4294967295), 0, 4294967295)
end
abbrev fn_low : fn_N := (0, 4294967295, 0, 4294967295, 0, 4294967295)
def fn_nar (n1 n2 n3 n4 n5 n6 : Int64) : fn_N := if fn_lt 4294967295 n4 then (fn_it 3 (fn_nar0 n1 n2 n3 n4)).getD fn_low else (n1, n2, n3, n4, n5, n6)
/-- settled; what came to be empty is any -/
def fn_fin (r : fn_N) : fn_N := (fn_it 3 r).getD fn_any
theorem fn_fin_s {r y z : fn_N} (h : r = y) (hs : fn_it 3 y = some z) : fn_fin r = z := by subst h; unfold fn_fin; rw [hs]; rfl
theorem fn_fin_n {r y : fn_N} (h : r = y) (hs : fn_it 3 y = none) : fn_fin r = fn_any := by subst h; unfold fn_fin; rw [hs]; rfl
