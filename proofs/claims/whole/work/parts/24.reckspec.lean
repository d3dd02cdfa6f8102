/-! The operations of section Z, as the class does them (what is known of x: n1 .. n6, of y: o1 .. o6). -/
def fn_half (x b : Int64) : Int64 := ((x.toUInt64 >>> ((1 : Int32).toInt64.toUInt64 &&& Int64.toUInt64 63)).toInt64 / b) <<< ((1 : Int32).toInt64 &&& 63)
/-- the quotient without sign; by 0 it is 0 -/
def fn_quo (x b : Int64) : Int64 := if b = 0 then 0 else if b < 0 then (if fn_lt x b then 0 else 1) else if x < 0 then (if fn_lt (x - fn_half x b * b) b then fn_half x b else fn_half x b + 1) else x / b
/-- bytes in turn -/
def fn_swap (x : Int64) : Nat → Int64
  | 0 => 0
  | k + 1 => fn_swap x k <<< ((8 : Int32).toInt64 &&& 63) ||| ((x.toUInt64 >>> ((8 * nI k).toInt64.toUInt64 &&& Int64.toUInt64 63)).toInt64 &&& 255)
abbrev fn_any : fn_N := (0, -1, 0, -1, -9223372036854775808, 9223372036854775807)
abbrev fn_ex (x : Int64) : fn_N := (x, 0, x, x, x, x)
section
variable (n1 n2 n3 n4 n5 n6 o1 o2 o3 o4 o5 o6 : Int64)
def fn_au : Int64 := (n2 + o2 + (n1 + o1)) ^^^ (n1 + o1) ||| n2 ||| o2
def fn_add : fn_N := ((n1 + o1) &&& (fn_au n1 n2 o1 o2 ^^^ -1), fn_au n1 n2 o1 o2, (if fn_lt (n4 + o4) n4 then 0 else n3 + o3), (if fn_lt (n4 + o4) n4 then -1 else n4 + o4),
  (if (n5 ^^^ (n5 + o5)) &&& (o5 ^^^ (n5 + o5)) < 0 then -9223372036854775808 else if (n6 ^^^ (n6 + o6)) &&& (o6 ^^^ (n6 + o6)) < 0 then -9223372036854775808 else n5 + o5),
  (if (n5 ^^^ (n5 + o5)) &&& (o5 ^^^ (n5 + o5)) < 0 then 9223372036854775807 else if (n6 ^^^ (n6 + o6)) &&& (o6 ^^^ (n6 + o6)) < 0 then 9223372036854775807 else n6 + o6))
def fn_su : Int64 := ((n1 - o1) + n2) ^^^ ((n1 - o1) - o2) ||| n2 ||| o2
def fn_sub : fn_N := ((n1 - o1) &&& (fn_su n1 n2 o1 o2 ^^^ -1), fn_su n1 n2 o1 o2, (if fn_lt n3 o4 then 0 else n3 - o4), (if fn_lt n3 o4 then -1 else n4 - o3),
  (if (n5 ^^^ o6) &&& (n5 ^^^ (n5 - o6)) < 0 then -9223372036854775808 else if (n6 ^^^ o5) &&& (n6 ^^^ (n6 - o5)) < 0 then -9223372036854775808 else n5 - o6),
  (if (n5 ^^^ o6) &&& (n5 ^^^ (n5 - o6)) < 0 then 9223372036854775807 else if (n6 ^^^ o5) &&& (n6 ^^^ (n6 - o5)) < 0 then 9223372036854775807 else n6 - o5))
def fn_div : fn_N := if o2 = 0 then (if o1 = 0 then fn_ex 0 else (0, -1, fn_quo n3 o1, fn_quo n4 o1, -9223372036854775808, 9223372036854775807)) else (0, -1, 0, n4, -9223372036854775808, 9223372036854775807)
def fn_rest : fn_N := if o2 = 0 then (if o1 = 0 then (n1, n2, n3, n4, n5, n6) else if fn_lt n4 o1 then (n1, n2, n3, n4, n5, n6) else (0, -1, 0, o1 - 1, -9223372036854775808, 9223372036854775807)) else (0, -1, 0, n4, -9223372036854775808, 9223372036854775807)
def fn_and : fn_N := (n1 &&& o1, ((n1 ||| n2) &&& (o1 ||| o2)) &&& ((n1 &&& o1) ^^^ -1), 0, fn_min (fn_min (-1) n4) o4, -9223372036854775808, 9223372036854775807)
/-- narrowed: its low 32 bits -/
def fn_nar0 : fn_N := (n1 &&& 4294967295, n2 &&& 4294967295,
  (if (n3.toUInt64 >>> ((32 : Int32).toInt64.toUInt64 &&& Int64.toUInt64 63)).toInt64 = (n4.toUInt64 >>> ((32 : Int32).toInt64.toUInt64 &&& Int64.toUInt64 63)).toInt64 then n3 &&& 4294967295 else 0),
  (if (n3.toUInt64 >>> ((32 : Int32).toInt64.toUInt64 &&& Int64.toUInt64 63)).toInt64 = (n4.toUInt64 >>> ((32 : Int32).toInt64.toUInt64 &&& Int64.toUInt64 63)).toInt64 then n4 &&& 4294967295 else 4294967295), 0, 4294967295)
end
abbrev fn_low : fn_N := (0, 4294967295, 0, 4294967295, 0, 4294967295)
def fn_nar (n1 n2 n3 n4 n5 n6 : Int64) : fn_N := if fn_lt 4294967295 n4 then (fn_it 3 (fn_nar0 n1 n2 n3 n4)).getD fn_low else (n1, n2, n3, n4, n5, n6)
