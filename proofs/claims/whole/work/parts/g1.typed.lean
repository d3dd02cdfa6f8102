/-! PURE: a machine that knows of each value what it is; it does an instruction with all checks. -/
/-- a kind, a number or a place, a map, an entry -/
abbrev tyV : Type := Int32 × Int64 × Nat × Nat
/-- packet, its size, context, clock, how many tellings, tellings, entries there, keys, values -/
abbrev tyU : Type := (Nat → Int32) × Nat × (Nat → Int32) × Int64 × Nat × (Nat → Int64) × (Nat → Nat → Prop) × (Nat → Nat → Nat → Int32) × (Nat → Nat → Nat → Int32)
/-- cells (registers, then slots of the stack), bytes of slots that hold bytes, which are written, the world -/
abbrev tyT : Type := (Nat → tyV) × (Nat → Int32) × (Nat → Int32) × tyU
abbrev tyC (T : tyT) : Nat → tyV := T.1
abbrev tyB (T : tyT) : Nat → Int32 := T.2.1
abbrev tyM (T : tyT) : Nat → Int32 := T.2.2.1
abbrev tyW (T : tyT) : tyU := T.2.2.2
abbrev uP (U : tyU) : Nat → Int32 := U.1
abbrev uZ (U : tyU) : Nat := U.2.1
abbrev uC (U : tyU) : Nat → Int32 := U.2.2.1
abbrev uT (U : tyU) : Int64 := U.2.2.2.1
abbrev uN (U : tyU) : Nat := U.2.2.2.2.1
abbrev uL (U : tyU) : Nat → Int64 := U.2.2.2.2.2.1
abbrev uH (U : tyU) : Nat → Nat → Prop := U.2.2.2.2.2.2.1
abbrev uK (U : tyU) : Nat → Nat → Nat → Int32 := U.2.2.2.2.2.2.2.1
abbrev uV (U : tyU) : Nat → Nat → Nat → Int32 := U.2.2.2.2.2.2.2.2
/-- a long, from a byte on, the lowest byte first -/
def yn (f : Nat → Int32) (a : Nat) : Nat → Int64 → Int64
  | 0, v => v
  | i + 1, v => yn f a i (jlshl v 8 ||| ((f (a + i)) &&& 255).toInt64)
/-- a byte of a long -/
def yb (v : Int64) (b : Nat) : Int32 := (jlushr v (8 * nI b)).toInt32.toInt8.toInt32
def wrb (f : Nat → Int32) (a n : Nat) (v : Int64) : Nat → Int32 := fun j => if a ≤ j ∧ j < a + n then yb v (j - a) else f j
def ty_op (c : Int64) (T : tyT) : tyV := if d_rf c = 0 then (1, d_fn c, 0, 0) else tyC T (d_fi c)
abbrev ty_ptr (t : tyV) : Prop := t.1 = 2 ∨ t.1 = 3 ∨ t.1 = 4 ∨ t.1 = 7
abbrev ty_ofp (t : tyV) : Prop := t.1 = 4 ∨ t.1 = 5
abbrev ty_n (v : Int64) : tyV := (1, v, 0, 0)
def ty_set (T : tyT) (i : Nat) (t : tyV) : tyT := (fup (tyC T) i t, T.2)
def ty_ari (c : Int64) (T : tyT) : Option tyT :=
  if d_opn c = 12 ∧ d_nar c = 0 then some (ty_set T (d_ti c) (ty_op c T))
  else if (ty_op c T).1 = 1 ∧ ((tyC T (d_ti c)).1 = 1 ∨ d_opn c = 12) then some (ty_set T (d_ti c) (ty_n (if d_nar c = 0 then ov (d_opn c) (tyC T (d_ti c)).2.1 (ty_op c T).2.1 else ovn (d_opn c) (tyC T (d_ti c)).2.1 (ty_op c T).2.1)))
  else if ¬ d_nar c = 0 ∨ 1 < d_opn c then none
  else if ty_ptr (tyC T (d_ti c)) ∧ (ty_op c T).1 = 1 then some (ty_set T (d_ti c) ((tyC T (d_ti c)).1, (if d_opn c = 1 then (tyC T (d_ti c)).2.1 - (ty_op c T).2.1 else (tyC T (d_ti c)).2.1 + (ty_op c T).2.1), (tyC T (d_ti c)).2.2))
  else if d_opn c = 0 ∧ (tyC T (d_ti c)).1 = 1 ∧ ty_ptr (ty_op c T) then some (ty_set T (d_ti c) ((ty_op c T).1, (ty_op c T).2.1 + (tyC T (d_ti c)).2.1, (ty_op c T).2.2))
  else if ty_ofp (tyC T (d_ti c)) ∧ ty_ofp (ty_op c T) ∧ d_opn c = 1 then some (ty_set T (d_ti c) (ty_n ((tyC T (d_ti c)).2.1 - (ty_op c T).2.1)))
  else none
/-- a byte of the stack -/
def ty_sb (T : tyT) (a : Nat) : Int32 := if (tyC T (74 - a / 8)).1 = 1 then yb (tyC T (74 - a / 8)).2.1 (a % 8) else tyB T a
def ty_able (T : tyT) (j : Nat) (w : Int32) : Prop := (tyC T j).1 = 1 ∨ ((tyC T j).1 = 0 ∧ tyM T j &&& w = w)
/-- the bytes that a pointer leads to, and where in them a place is -/
def ty_ar (T : tyT) (t : tyV) : Nat → Int32 := if t.1 = 2 then uC (tyW T) else if t.1 = 3 then ty_sb T else if t.1 = 4 then uP (tyW T) else uV (tyW T) t.2.2.1 t.2.2.2
def ty_ad (t : tyV) (pl : Int64) : Nat := if t.1 = 3 then (pl + 512).toNatClampNeg else pl.toNatClampNeg
/-- n bytes are there -/
def ty_in (vb : Int32 → Int32) (T : tyT) (t : tyV) (pl : Int64) (n : Nat) : Prop := if t.1 = 2 then 0 ≤ pl.toInt ∧ pl.toInt + (n : Int) ≤ 64 else if t.1 = 3 then -512 ≤ pl.toInt ∧ pl.toInt + (n : Int) ≤ 0 else if t.1 = 4 then 0 ≤ pl.toInt ∧ pl.toInt + (n : Int) ≤ (uZ (tyW T) : Int) else t.1 = 7 ∧ 0 ≤ pl.toInt ∧ pl.toInt + (n : Int) ≤ (vb (nI t.2.2.1)).toInt
def d_nn (c : Int64) : Nat := (d_by c).toNatClampNeg
abbrev ty_pl (c : Int64) (t : tyV) : Int64 := t.2.1 + (d_off c).toInt64
def ty_get (c : Int64) (T : tyT) (t : tyV) : Int64 := yn (ty_ar T t) (ty_ad t (ty_pl c t)) (d_nn c) 0
/-- a number has no more to it -/
def ty_nz (t : tyV) : tyV := if t.1 = 1 then ty_n t.2.1 else t
noncomputable def ty_load (c : Int64) (vb : Int32 → Int32) (T : tyT) : Option tyT :=
  ic (ty_in vb T (tyC T (d_fi c)) (ty_pl c (tyC T (d_fi c))) (d_nn c))
    (if (tyC T (d_fi c)).1 = 2 then (if jirem (ty_pl c (tyC T (d_fi c))).toInt32 (d_by c) = 0 ∧ (16 ≤ ty_pl c (tyC T (d_fi c)) ∨ d_by c = 8) then some (ty_set T (d_ti c) (if 16 ≤ ty_pl c (tyC T (d_fi c)) then ty_n (ty_get c T (tyC T (d_fi c))) else if ty_pl c (tyC T (d_fi c)) = 0 then (4, 0, 0, 0) else (5, (nI (uZ (tyW T))).toInt64, 0, 0))) else none)
    else if (tyC T (d_fi c)).1 = 3 then (if jirem (ty_pl c (tyC T (d_fi c))).toInt32 (d_by c) = 0 then (if ¬ (tyC T (sl (ty_pl c (tyC T (d_fi c))).toInt32)).1 = 0 ∧ d_by c = 8 then some (ty_set T (d_ti c) (ty_nz (tyC T (sl (ty_pl c (tyC T (d_fi c))).toInt32)))) else ic (ty_able T (sl (ty_pl c (tyC T (d_fi c))).toInt32) (d_bm c (ty_pl c (tyC T (d_fi c))).toInt32)) (some (ty_set T (d_ti c) (ty_n (ty_get c T (tyC T (d_fi c)))))) none) else none)
    else some (ty_set T (d_ti c) (ty_n (ty_get c T (tyC T (d_fi c)))))) none
/-- a slot of the stack is written -/
def ty_sto (c : Int64) (T : tyT) (pl : Int64) (x : tyV) : tyT :=
  if d_by c = 8 then (fup (tyC T) (sl pl.toInt32) x, tyB T, fup (tyM T) (sl pl.toInt32) 0, tyW T)
  else (fup (tyC T) (sl pl.toInt32) (0, 0, 0, 0), wrb (fun a => if 74 - a / 8 = sl pl.toInt32 then ty_sb T a else tyB T a) (pl + 512).toNatClampNeg (d_nn c) x.2.1, fup (tyM T) (sl pl.toInt32) (if (tyC T (sl pl.toInt32)).1 = 0 then tyM T (sl pl.toInt32) ||| d_bm c pl.toInt32 else if (tyC T (sl pl.toInt32)).1 = 1 then 255 ||| d_bm c pl.toInt32 else d_bm c pl.toInt32), tyW T)
def uP_s (U : tyU) (f : Nat → Int32) : tyU := (f, U.2)
def uV_s (U : tyU) (m i : Nat) (f : Nat → Int32) : tyU := (uP U, uZ U, uC U, uT U, uN U, uL U, uH U, uK U, fup (uV U) m (fup (uV U m) i f))
def ty_w (T : tyT) (U : tyU) : tyT := (tyC T, tyB T, tyM T, U)
noncomputable def ty_put (c : Int64) (vb : Int32 → Int32) (T : tyT) : Option tyT :=
  ic (ty_in vb T (tyC T (d_ti c)) (ty_pl c (tyC T (d_ti c))) (d_nn c) ∧ ((ty_op c T).1 = 1 ∨ (d_fam c = 3 ∧ (tyC T (d_ti c)).1 = 3 ∧ d_by c = 8)))
    (if (tyC T (d_ti c)).1 = 3 then (if jirem (ty_pl c (tyC T (d_ti c))).toInt32 (d_by c) = 0 then ic (d_fam c = 5 ∧ ¬ ty_able T (sl (ty_pl c (tyC T (d_ti c))).toInt32) (d_bm c (ty_pl c (tyC T (d_ti c))).toInt32)) none (some (ty_sto c T (ty_pl c (tyC T (d_ti c))) (if d_fam c = 5 then ty_n (ty_get c T (tyC T (d_ti c)) + (ty_op c T).2.1) else ty_op c T))) else none)
    else if (tyC T (d_ti c)).1 = 4 ∧ ¬ d_fam c = 5 then some (ty_w T (uP_s (tyW T) (wrb (uP (tyW T)) (ty_pl c (tyC T (d_ti c))).toNatClampNeg (d_nn c) (ty_op c T).2.1)))
    else if (tyC T (d_ti c)).1 = 7 then some (ty_w T (uV_s (tyW T) (tyC T (d_ti c)).2.2.1 (tyC T (d_ti c)).2.2.2 (wrb (uV (tyW T) (tyC T (d_ti c)).2.2.1 (tyC T (d_ti c)).2.2.2) (ty_pl c (tyC T (d_ti c))).toNatClampNeg (d_nn c) (if d_fam c = 5 then ty_get c T (tyC T (d_ti c)) + (ty_op c T).2.1 else (ty_op c T).2.1))))
    else none) none
/-- n bytes that a helper reads -/
def ty_can (vb : Int32 → Int32) (T : tyT) (t : tyV) (n : Nat) : Prop := (t.1 = 3 ∧ -512 ≤ t.2.1.toInt ∧ t.2.1.toInt + (n : Int) ≤ 0 ∧ ∀ a, (t.2.1 + 512).toNatClampNeg ≤ a → a < (t.2.1 + 512).toNatClampNeg + n → ty_able T (74 - a / 8) (jishl 1 (nI (a % 8)))) ∨ (t.1 = 4 ∧ (n = 0 ∨ (0 ≤ t.2.1.toInt ∧ t.2.1.toInt + (n : Int) ≤ (uZ (tyW T) : Int)))) ∨ (t.1 = 7 ∧ (n = 0 ∨ (0 ≤ t.2.1.toInt ∧ t.2.1.toInt + (n : Int) ≤ (vb (nI t.2.2.1)).toInt)))
def ty_key (T : tyT) (t : tyV) : Nat → Int32 := fun b => ty_ar T t (ty_ad t t.2.1 + b)
/-- tables: tb; n entries -/
noncomputable def u_find (tb : Nat → Prop) (kb : Int32 → Int32) (en : Nat → Nat) (U : tyU) (m : Nat) (key : Nat → Int32) : Option Nat :=
  ic (tb m) (x_fst (fun i => uH U m i ∧ ∀ b, b < (kb (nI m)).toNatClampNeg → uK U m i b = key b) (en m) 0) (if (yn key 0 4 0) < (nI (en m)).toInt64 then some (yn key 0 4 0).toNatClampNeg else none)
def u_here (U : tyU) (m i : Nat) (h : Prop) : tyU := (uP U, uZ U, uC U, uT U, uN U, uL U, fup (uH U) m (fup (uH U m) i h), uK U, uV U)
def u_key (U : tyU) (m i : Nat) (k : Nat → Int32) (n : Nat) : tyU := (uP U, uZ U, uC U, uT U, uN U, uL U, uH U, fup (uK U) m (fup (uK U m) i (fun b => if b < n then k b else uK U m i b)), uV U)
def u_val (U : tyU) (m i : Nat) (v : Nat → Int32) (n : Nat) : tyU := uV_s U m i (fun b => if b < n then v b else uV U m i b)
noncomputable def u_upd (tb : Nat → Prop) (kb vb : Int32 → Int32) (en : Nat → Nat) (U : tyU) (m : Nat) (key val : Nat → Int32) : Int32 × tyU := match u_find tb kb en U m key with
  | some i => (0, u_val U m i val (vb (nI m)).toNatClampNeg)
  | none => ic (tb m) (match x_fst (fun i => ¬ uH U m i) (en m) 0 with
    | some i => (0, u_val (u_key (u_here U m i True) m i key (kb (nI m)).toNatClampNeg) m i val (vb (nI m)).toNatClampNeg)
    | none => (-1, U)) (-1, U)
noncomputable def u_del (tb : Nat → Prop) (kb : Int32 → Int32) (en : Nat → Nat) (U : tyU) (m : Nat) (key : Nat → Int32) : Int32 × tyU := ic (tb m) (match u_find tb kb en U m key with
  | some i => (0, u_here U m i False)
  | none => (-1, U)) (-1, U)
def y_mix (f : Nat → Int32) (a : Nat) : Nat → Int32
  | 0 => 1
  | k + 1 => 31 * y_mix f a k + ((f (a + k)) &&& 255)
def ty_lost (T : tyT) : tyT := (fun i => if 1 ≤ i ∧ i ≤ 5 then (0, 0, 0, 0) else tyC T i, T.2)
def u_tell (U : tyU) (v : Int64) : tyU := if uN U < 1000 then (uP U, uZ U, uC U, uT U, uN U + 1, fup (uL U) (uN U) v, uH U, uK U, uV U) else U
def u_tick (U : tyU) : tyU := (uP U, uZ U, uC U, uT U + 1, U.2.2.2.2)
/-- what a helper gives -/
def ty_giv (T : tyT) (t : tyV) (U : tyU) : tyT := ty_set (ty_lost (ty_w T U)) 0 t
noncomputable def ty_hlp (c : Int64) (nm : Nat) (tb : Nat → Prop) (kb vb : Int32 → Int32) (en : Nat → Nat) (T : tyT) : Option tyT :=
  if d_field c = 4 then (if (tyC T 1).1 = 1 then some (ty_giv T (ty_n 0) (u_tell (tyW T) (tyC T 1).2.1)) else none)
  else if d_field c = 5 then some (ty_giv T (ty_n (uT (tyW T))) (u_tick (tyW T)))
  else if d_field c = 6 then ic ((tyC T 2).1 = 1 ∧ 0 ≤ (tyC T 2).2.1 ∧ (tyC T 2).2.1 ≤ 512 ∧ ty_can vb T (tyC T 1) (tyC T 2).2.1.toNatClampNeg) (some (ty_giv T (ty_n ((y_mix (ty_ar T (tyC T 1)) (ty_ad (tyC T 1) (tyC T 1).2.1) (tyC T 2).2.1.toNatClampNeg).toInt64 &&& 4294967295)) (tyW T))) none
  else ic ((tyC T 1).1 = 6 ∧ (tyC T 1).2.2.1 < nm ∧ ty_can vb T (tyC T 2) (kb (nI (tyC T 1).2.2.1)).toNatClampNeg)
    (if d_field c = 1 then (match u_find tb kb en (tyW T) (tyC T 1).2.2.1 (ty_key T (tyC T 2)) with
      | some i => some (ty_giv T (7, 0, (tyC T 1).2.2.1, i) (tyW T))
      | none => some (ty_giv T (ty_n 0) (tyW T)))
    else if d_field c = 2 then ic (ty_can vb T (tyC T 3) (vb (nI (tyC T 1).2.2.1)).toNatClampNeg) (some (ty_giv T (ty_n (u_upd tb kb vb en (tyW T) (tyC T 1).2.2.1 (ty_key T (tyC T 2)) (ty_key T (tyC T 3))).1.toInt64) (u_upd tb kb vb en (tyW T) (tyC T 1).2.2.1 (ty_key T (tyC T 2)) (ty_key T (tyC T 3))).2)) none
    else some (ty_giv T (ty_n (u_del tb kb en (tyW T) (tyC T 1).2.2.1 (ty_key T (tyC T 2))).1.toInt64) (u_del tb kb en (tyW T) (tyC T 1).2.2.1 (ty_key T (tyC T 2))).2)) none
/-- does the jump go -/
def ty_rel (c : Int64) (T : tyT) : Option Prop :=
  if (tyC T (d_ti c)).1 = 1 ∧ (ty_op c T).1 = 1 then some (hldn (d_opn c) (d_nar c) (tyC T (d_ti c)).2.1 (ty_op c T).2.1)
  else if ¬ d_nar c = 0 then none
  else if (d_opn c = 0 ∨ d_opn c = 4) ∧ (((tyC T (d_ti c)).1 = 7 ∧ (ty_op c T).1 = 1 ∧ (ty_op c T).2.1 = 0 ∧ (tyC T (d_ti c)).2.1 = 0) ∨ ((tyC T (d_ti c)).1 = 1 ∧ (tyC T (d_ti c)).2.1 = 0 ∧ (ty_op c T).1 = 7 ∧ (ty_op c T).2.1 = 0)) then some (d_opn c = 4)
  else if (d_opn c = 1 ∨ d_opn c = 2 ∨ d_opn c = 7 ∨ d_opn c = 8) ∧ (((tyC T (d_ti c)).1 = 4 ∧ (ty_op c T).1 = 5) ∨ ((tyC T (d_ti c)).1 = 5 ∧ (ty_op c T).1 = 4)) then some (hld (d_opn c) (3298534883328 + (tyC T (d_ti c)).2.1) (3298534883328 + (ty_op c T).2.1))
  else none
/-- an instruction that is no relation -/
noncomputable def ty_do (c w : Int64) (nm : Nat) (tb : Nat → Prop) (kb vb : Int32 → Int32) (en : Nat → Nat) (T : tyT) : Option tyT :=
  if d_fam c = 1 then some (ty_set T (d_ti c) (if d_from c = 0 then ty_n (d_wn c w) else (6, 0, (d_field c).toNatClampNeg, 0)))
  else if d_fam c = 6 then ty_ari c T
  else if d_fam c = 7 then some T
  else if d_fam c = 9 then ty_hlp c nm tb kb vb en T
  else if d_fam c = 10 then (if (tyC T 0).1 = 1 then some T else none)
  else if d_fam c = 2 then ty_load c vb T else ty_put c vb T
abbrev ty_unr (c : Int64) (T : tyT) : Prop := (¬ d_rt c = 0 ∧ (tyC T (d_ti c)).1 = 0) ∨ (¬ d_rf c = 0 ∧ (tyC T (d_fi c)).1 = 0)
/-- a step of the program p at slot s -/
noncomputable def ty_step (p : Nat → Int64) (nm : Nat) (tb : Nat → Prop) (kb vb : Int32 → Int32) (en : Nat → Nat) (T : tyT) (s : Nat) : Option (tyT × Option Nat) :=
  if ty_unr (p s) T then none
  else if d_fam (p s) = 8 then (match ty_rel (p s) T with
    | some g => some (T, some (ic g (d_tg (p s) s) (s + 1)))
    | none => none)
  else (match ty_do (p s) (p (s + 1)) nm tb kb vb en T with
    | some U => some (U, if d_fam (p s) = 10 then none else some (x_nx p s))
    | none => none)
/-- a run: its end and how many steps it took -/
noncomputable def ty_run (p : Nat → Int64) (nm : Nat) (tb : Nat → Prop) (kb vb : Int32 → Int32) (en : Nat → Nat) : Nat → tyT → Nat → Option (tyT × Nat)
  | 0, _, _ => none
  | k + 1, T, s => match ty_step p nm tb kb vb en T s with
    | none => none
    | some (U, none) => some (U, 1)
    | some (U, some s') => (match ty_run p nm tb kb vb en k U s' with
      | none => none
      | some r => some (r.1, r.2 + 1))
/-- the longs that a value is: in the class, in the reference -/
def rc_ (t : tyV) : Int64 := if t.1 = 2 then 1099511627776 + t.2.1 else if t.1 = 3 then 2199023255552 + t.2.1 else if t.1 = 4 ∨ t.1 = 5 then 3298534883328 + t.2.1 else if t.1 = 6 then (nI t.2.2.1).toInt64 else if t.1 = 7 then (nI (4 + t.2.2.1)).toInt64 * 1099511627776 + (nI t.2.2.2).toInt64 * 1048576 + t.2.1 else t.2.1
def rr_ (t : tyV) : Int64 := if t.1 = 7 then 4398046511104 + 64 * (nI (64 * t.2.2.1 + t.2.2.2)).toInt64 + t.2.1 else rc_ t
