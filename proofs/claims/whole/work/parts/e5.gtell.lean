/-! PURE: what relations tell is sound. -/
def hld (op : Int32) (a b : Int64) : Prop :=
  if op = 0 then a = b else if op = 1 then un b < un a else if op = 2 then un b ≤ un a else if op = 3 then ¬ a &&& b = 0 else if op = 4 then ¬ a = b else if op = 5 then b.toInt < a.toInt else if op = 6 then b.toInt ≤ a.toInt
  else if op = 7 then un a < un b else if op = 8 then un a ≤ un b else if op = 9 then a.toInt < b.toInt else if op = 10 then a.toInt ≤ b.toInt else a &&& b = 0
def hldn (op nar : Int32) (a b : Int64) : Prop := if nar = 0 then hld op a b else if fn_sgn op then hld op a.toInt32.toInt64 b.toInt32.toInt64 else hld op (a &&& 4294967295) (b &&& 4294967295)
/-- a pair that both are of -/
def gQ (r : fn_NN) (a b : Int64) : Prop := ∃ q, r = some q ∧ gN q.1 a ∧ gN q.2 b
section GT
variable {x y : fn_N} {u v w a b c d : Int64}
theorem gQ_turn {r : fn_NN} (h : gQ r b a) : gQ (fn_turn r) a b := by
  obtain ⟨q, q1, q2, q3⟩ := h
  exact ⟨(q.2, q.1), by unfold fn_turn; rw [q1]; rfl, q3, q2⟩
theorem un_p1 (h : ¬ a = -1) : un (a + 1) = un a + 1 := by
  have l := un_lt a
  have ne : ¬ un a = un (-1) := fun z => h (un_inj z)
  rw [un_m1] at ne
  rw [un_add, show un 1 = 1 from by decide]
  omega
theorem un_s1 (h : ¬ a = 0) : un (a - 1) = un a - 1 := by
  have l := un_lt a
  have := un_nz h
  rw [un_sub, show un 1 = 1 from by decide]
  omega
theorem int_p1 (h : ¬ a = 9223372036854775807) : (a + 1).toInt = a.toInt + 1 := by
  have b1' := int_b a
  have ne : ¬ a.toInt = 9223372036854775807 := fun z => h (Int64.toInt_inj.mp (by rw [z]; decide))
  rw [in_add (by rw [show (1 : Int64).toInt = 1 from by decide]; omega) (by rw [show (1 : Int64).toInt = 1 from by decide]; omega), show (1 : Int64).toInt = 1 from by decide]
theorem int_s1 (h : ¬ a = -9223372036854775808) : (a - 1).toInt = a.toInt - 1 := by
  have b1' := int_b a
  have ne : ¬ a.toInt = -9223372036854775808 := fun z => h (Int64.toInt_inj.mp (by rw [z]; decide))
  rw [in_sub (by rw [show (1 : Int64).toInt = 1 from by decide]; omega) (by rw [show (1 : Int64).toInt = 1 from by decide]; omega), show (1 : Int64).toInt = 1 from by decide]
abbrev ap (f : Int64 → Int64 → Int64 → Int64 → Int64 → Int64 → Int64 → Int64 → Int64 → Int64 → Int64 → Int64 → fn_NN) (x y : fn_N) : fn_NN := f x.1 x.2.1 x.2.2.1 x.2.2.2.1 x.2.2.2.2.1 x.2.2.2.2.2 y.1 y.2.1 y.2.2.1 y.2.2.2.1 y.2.2.2.2.1 y.2.2.2.2.2
theorem gT_above (hx : gN x a) (hy : gN y b) (h : un b < un a) : gQ (ap fn_above x y) a b := by
  obtain ⟨a1, a2, a3, a4, a5, a6⟩ := hx
  obtain ⟨b1', b2', b3', b4', b5', b6'⟩ := hy
  have la := un_lt a
  have n1' : ¬ y.2.2.1 = -1 := fun z => by rw [z, un_m1] at b3'; omega
  have n2' : ¬ x.2.2.2.1 = 0 := fun z => by rw [z, un_z] at a4; omega
  show gQ (if y.2.2.1 = -1 then none else if x.2.2.2.1 = 0 then none else _) a b
  rw [if_neg n1', if_neg n2']
  refine ⟨_, rfl, ⟨a1, a2, ?_, a4, a5, a6⟩, ⟨b1', b2', b3', ?_, b5', b6'⟩⟩
  · show un (fn_max _ _) ≤ _
    rw [un_max, un_p1 n1']
    omega
  · show _ ≤ un (fn_min _ _)
    rw [un_min, un_s1 n2']
    omega
theorem gT_nbelow (hx : gN x a) (hy : gN y b) (h : un b ≤ un a) : gQ (ap fn_nbelow x y) a b := by
  obtain ⟨a1, a2, a3, a4, a5, a6⟩ := hx
  obtain ⟨b1', b2', b3', b4', b5', b6'⟩ := hy
  refine ⟨_, rfl, ⟨a1, a2, ?_, a4, a5, a6⟩, ⟨b1', b2', b3', ?_, b5', b6'⟩⟩
  · show un (fn_max _ _) ≤ _
    rw [un_max]; omega
  · show _ ≤ un (fn_min _ _)
    rw [un_min]; omega
theorem gT_greater (hx : gN x a) (hy : gN y b) (h : b.toInt < a.toInt) : gQ (ap fn_greater x y) a b := by
  obtain ⟨a1, a2, a3, a4, a5, a6⟩ := hx
  obtain ⟨b1', b2', b3', b4', b5', b6'⟩ := hy
  have ba := int_b a
  have bb := int_b b
  have n1' : ¬ y.2.2.2.2.1 = 9223372036854775807 := fun z => by rw [z, hi_s] at b5'; omega
  have n2' : ¬ x.2.2.2.2.2 = -9223372036854775808 := fun z => by rw [z, lo_s] at a6; omega
  show gQ (if y.2.2.2.2.1 = 9223372036854775807 then none else if x.2.2.2.2.2 = -9223372036854775808 then none else _) a b
  rw [if_neg n1', if_neg n2']
  refine ⟨_, rfl, ⟨a1, a2, a3, a4, ?_, a6⟩, ⟨b1', b2', b3', b4', b5', ?_⟩⟩
  · show (fn_smax _ _).toInt ≤ _
    rw [int_smax, int_p1 n1']; omega
  · show _ ≤ (fn_smin _ _).toInt
    rw [int_smin, int_s1 n2']; omega
theorem gT_nless (hx : gN x a) (hy : gN y b) (h : b.toInt ≤ a.toInt) : gQ (ap fn_nless x y) a b := by
  obtain ⟨a1, a2, a3, a4, a5, a6⟩ := hx
  obtain ⟨b1', b2', b3', b4', b5', b6'⟩ := hy
  refine ⟨_, rfl, ⟨a1, a2, a3, a4, ?_, a6⟩, ⟨b1', b2', b3', b4', b5', ?_⟩⟩
  · show (fn_smax _ _).toInt ≤ _
    rw [int_smax]; omega
  · show _ ≤ (fn_smin _ _).toInt
    rw [int_smin]; omega
theorem gT_same (hx : gN x a) (hy : gN y b) (h : a = b) : gQ (ap fn_same x y) a b := by
  subst h
  obtain ⟨a1, a2, a3, a4, a5, a6⟩ := hx
  obtain ⟨b1', b2', b3', b4', b5', b6'⟩ := hy
  have z : ((x.1 ^^^ y.1) &&& (x.2.1 ^^^ -1)) &&& (y.2.1 ^^^ -1) = 0 := bt_zero.mpr (fun i hi => by
    rw [bt_and, bt_and, bt_not hi, bt_not hi, bt_xor]
    cases p : bt x.2.1 i
    · cases q : bt y.2.1 i
      · rw [← a2 i hi p, ← b2' i hi q]; simp
      · simp
    · simp)
  have g : gN (x.1 ||| y.1, x.2.1 &&& y.2.1, fn_max x.2.2.1 y.2.2.1, fn_min x.2.2.2.1 y.2.2.2.1, fn_smax x.2.2.2.2.1 y.2.2.2.2.1, fn_smin x.2.2.2.2.2 y.2.2.2.2.2) a := by
    refine ⟨fun i hi w => ?_, fun i hi w => ?_, ?_, ?_, ?_, ?_⟩
    · have w' : bt (x.1 ||| y.1) i = true := w
      show bt (x.2.1 &&& y.2.1) i = false
      rw [bt_or] at w'
      rw [bt_and]
      cases p : bt x.1 i
      · rw [p, Bool.false_or] at w'
        rw [b1' i hi w', Bool.and_false]
      · rw [a1 i hi p, Bool.false_and]
    · have w' : bt (x.2.1 &&& y.2.1) i = false := w
      show bt a i = bt (x.1 ||| y.1) i
      rw [bt_and] at w'
      rw [bt_or]
      have i1 := a1 i hi
      have i2 := a2 i hi
      have j1 := b1' i hi
      have j2 := b2' i hi
      cases p : bt x.1 i <;> cases q : bt x.2.1 i <;> cases r : bt y.1 i <;> cases s : bt y.2.1 i <;> rw [p, q] at i1 i2 <;> rw [r, s] at j1 j2 <;> rw [q, s] at w' <;> simp at w' i1 i2 j1 j2 <;> simp [i2, j2] <;> simp_all
    · show un (fn_max _ _) ≤ _
      rw [un_max]; omega
    · show _ ≤ un (fn_min _ _)
      rw [un_min]; omega
    · show (fn_smax _ _).toInt ≤ _
      rw [int_smax]; omega
    · show _ ≤ (fn_smin _ _).toInt
      rw [int_smin]; omega
  show gQ (if _ then _ else _) a a
  rw [if_pos z]
  exact ⟨_, rfl, g, g⟩
theorem gT_exc (hx : gN x a) (h : ¬ a = b) : ∃ z, fn_exc x.1 x.2.1 x.2.2.1 x.2.2.2.1 x.2.2.2.2.1 x.2.2.2.2.2 b = some z ∧ gN z a := by
  have g : gN (x.1, x.2.1, x.2.2.1 + (if x.2.2.1 = b then 1 else 0), x.2.2.2.1 - (if x.2.2.2.1 = b then 1 else 0), x.2.2.2.2.1 + (if x.2.2.2.2.1 = b then 1 else 0), x.2.2.2.2.2 - (if x.2.2.2.2.2 = b then 1 else 0)) a := by
    obtain ⟨a1, a2, a3, a4, a5, a6⟩ := hx
    refine ⟨a1, a2, ?_, ?_, ?_, ?_⟩
    · show un (x.2.2.1 + (if x.2.2.1 = b then 1 else 0)) ≤ _
      by_cases e : x.2.2.1 = b
      · rw [if_pos e]
        have ne : ¬ un x.2.2.1 = un a := fun z => h ((un_inj z).symm.trans e)
        have la := un_lt a
        rw [un_p1 (fun z => by rw [z, un_m1] at a3 ne; omega)]
        omega
      · rw [if_neg e, Int64.add_zero]; exact a3
    · show _ ≤ un (x.2.2.2.1 - (if x.2.2.2.1 = b then 1 else 0))
      by_cases e : x.2.2.2.1 = b
      · rw [if_pos e]
        have ne : ¬ un x.2.2.2.1 = un a := fun z => h ((un_inj z).symm.trans e)
        rw [un_s1 (fun z => by rw [z, un_z] at a4 ne; omega)]
        omega
      · rw [if_neg e, Int64.sub_zero]; exact a4
    · show (x.2.2.2.2.1 + (if x.2.2.2.2.1 = b then 1 else 0)).toInt ≤ _
      by_cases e : x.2.2.2.2.1 = b
      · rw [if_pos e]
        have ne : ¬ x.2.2.2.2.1.toInt = a.toInt := fun z => h ((Int64.toInt_inj.mp z).symm.trans e)
        have ba := int_b a
        rw [int_p1 (fun z => by rw [z, hi_s] at a5 ne; omega)]
        omega
      · rw [if_neg e, Int64.add_zero]; exact a5
    · show _ ≤ (x.2.2.2.2.2 - (if x.2.2.2.2.2 = b then 1 else 0)).toInt
      by_cases e : x.2.2.2.2.2 = b
      · rw [if_pos e]
        have ne : ¬ x.2.2.2.2.2.toInt = a.toInt := fun z => h ((Int64.toInt_inj.mp z).symm.trans e)
        have ba := int_b a
        rw [int_s1 (fun z => by rw [z, lo_s] at a6 ne; omega)]
        omega
      · rw [if_neg e, Int64.sub_zero]; exact a6
  unfold fn_exc
  by_cases e : x.2.1 = 0
  · rw [if_pos e, if_neg (fun z => h ((gN_ex hx e).trans z))]
    exact ⟨_, rfl, g⟩
  · rw [if_neg e]
    exact ⟨_, rfl, g⟩
theorem gT_nsame (hx : gN x a) (hy : gN y b) (h : ¬ a = b) : gQ (ap fn_nsame x y) a b := by
  have one : ∀ z : fn_N, gN z a → gQ (fn_nsame1 x.1 x.2.1 y.1 y.2.1 y.2.2.1 y.2.2.2.1 y.2.2.2.2.1 y.2.2.2.2.2 z) a b := by
    intro z hz
    unfold fn_nsame1
    by_cases e : x.2.1 = 0
    · rw [if_pos e]
      obtain ⟨w, w1, w2⟩ := gT_exc hy (b := x.1) (fun q => h ((gN_ex hx e).trans q.symm))
      rw [w1]
      exact ⟨_, rfl, hz, w2⟩
    · rw [if_neg e]
      exact ⟨_, rfl, hz, hy⟩
  show gQ (fn_nsame _ _ _ _ _ _ _ _ _ _ _ _) a b
  unfold fn_nsame
  by_cases e : y.2.1 = 0
  · rw [if_pos e]
    obtain ⟨w, w1, w2⟩ := gT_exc hx (b := y.1) (fun q => h (q.trans (gN_ex hy e).symm))
    rw [w1]
    exact one w w2
  · rw [if_neg e]
    exact one _ hx
theorem bc_bit (h : fn_bc b = 1) (g : ¬ a &&& b = 0) : ∀ i, i < 64 → bt b i = true → bt a i = true := by
  obtain ⟨t, ht, e⟩ := bc_one h
  intro i hi hb
  rw [e, bt_p2 ht] at hb
  have et : t = i := of_decide_eq_true hb
  subst et
  cases q : bt a t
  · exfalso
    apply g
    refine bt_zero.mpr (fun j hj => ?_)
    rw [bt_and, e, bt_p2 ht]
    by_cases ej : t = j
    · rw [← ej, q]; rfl
    · rw [decide_eq_false ej, Bool.and_false]
  · rfl
theorem gT_meet1 (hx : gN x a) (hy : gN y b) (h : ¬ a &&& b = 0) : gN (fn_meet1 x.1 x.2.1 x.2.2.1 x.2.2.2.1 x.2.2.2.2.1 x.2.2.2.2.2 y.1 y.2.1) a := by
  unfold fn_meet1
  by_cases e : y.2.1 = 0
  · rw [if_pos e]
    by_cases c : fn_bc y.1 = 1
    · rw [if_pos c]
      rw [gN_ex hy e] at h
      have bb := bc_bit c h
      obtain ⟨a1, a2, a3⟩ := hx
      refine ⟨fun i hi w => ?_, fun i hi w => ?_, a3⟩
      · have w' : bt (x.1 ||| y.1) i = true := w
        show bt (x.2.1 &&& (y.1 ^^^ -1)) i = false
        rw [bt_or] at w'
        rw [bt_and, bt_not hi]
        cases p : bt x.1 i
        · rw [p, Bool.false_or] at w'
          rw [w', Bool.not_true, Bool.and_false]
        · rw [a1 i hi p, Bool.false_and]
      · have w' : bt (x.2.1 &&& (y.1 ^^^ -1)) i = false := w
        show bt a i = bt (x.1 ||| y.1) i
        rw [bt_and, bt_not hi] at w'
        rw [bt_or]
        cases p : bt y.1 i
        · rw [p, Bool.not_false, Bool.and_true] at w'
          rw [a2 i hi w', Bool.or_false]
        · rw [bb i hi p, Bool.or_true]
    · rw [if_neg c]; exact hx
  · rw [if_neg e]; exact hx
theorem and_cm : a &&& b = b &&& a := bt_ext (fun i _ => by rw [bt_and, bt_and, Bool.and_comm])
theorem gT_meet (hx : gN x a) (hy : gN y b) (h : ¬ a &&& b = 0) : gQ (ap fn_meet x y) a b := by
  have n : ¬ ((x.1 ||| x.2.1) &&& (y.1 ||| y.2.1)) = 0 := by
    intro z
    apply h
    refine bt_zero.mpr (fun i hi => ?_)
    have q := bt_zero.mp z i hi
    rw [bt_and] at q ⊢
    cases p : bt a i
    · rfl
    · cases r : bt b i
      · rfl
      · rw [gN_b2 hx i hi p, gN_b2 hy i hi r] at q
        exact absurd q (by decide)
  show gQ (if _ then none else _) a b
  rw [if_neg n]
  exact ⟨_, rfl, gT_meet1 hx hy h, gT_meet1 hy hx (by rw [and_cm]; exact h)⟩
theorem gT_nm1 (hx : gN x a) (hy : gN y b) (h : a &&& b = 0) : gN (x.1, (if y.2.1 = 0 then x.2.1 &&& (y.1 ^^^ -1) else x.2.1), x.2.2.1, x.2.2.2.1, x.2.2.2.2.1, x.2.2.2.2.2) a := by
  by_cases e : y.2.1 = 0
  · rw [if_pos e]
    rw [gN_ex hy e] at h
    have hb1 := gN_b1 hx
    obtain ⟨a1, a2, a3⟩ := hx
    refine ⟨fun i hi w => ?_, fun i hi w => ?_, a3⟩
    · show bt (x.2.1 &&& (y.1 ^^^ -1)) i = false
      rw [bt_and, a1 i hi w, Bool.false_and]
    · have w' : bt (x.2.1 &&& (y.1 ^^^ -1)) i = false := w
      show bt a i = bt x.1 i
      rw [bt_and, bt_not hi] at w'
      cases p : bt y.1 i
      · rw [p, Bool.not_false, Bool.and_true] at w'
        exact a2 i hi w'
      · have q := bt_zero.mp h i hi
        rw [bt_and, p, Bool.and_true] at q
        rw [q]
        cases r : bt x.1 i
        · rfl
        · rw [hb1 i hi r] at q
          exact absurd q (by decide)
  · rw [if_neg e]; exact hx
theorem gT_nmeet (hx : gN x a) (hy : gN y b) (h : a &&& b = 0) : gQ (ap fn_nmeet x y) a b := by
  have z : x.1 &&& y.1 = 0 := bt_zero.mpr (fun i hi => by
    have q := bt_zero.mp h i hi
    rw [bt_and] at q ⊢
    cases p : bt x.1 i
    · rfl
    · cases r : bt y.1 i
      · rfl
      · rw [gN_b1 hx i hi p, gN_b1 hy i hi r] at q
        exact absurd q (by decide))
  show gQ (if _ then _ else none) a b
  rw [if_pos z]
  exact ⟨_, rfl, gT_nm1 hx hy h, gT_nm1 hy hx (by rw [and_cm]; exact h)⟩
theorem gT_rel (hx : gN x a) (hy : gN y b) {op : Int32} (h : hld op a b) : gQ (fn_relT x y op) a b := by
  unfold hld at h
  unfold fn_relT fn_rel
  by_cases o0 : op = 0
  · rw [if_pos o0] at h ⊢; exact gT_same hx hy h
  rw [if_neg o0] at h ⊢
  by_cases o1 : op = 1
  · rw [if_pos o1] at h ⊢; exact gT_above hx hy h
  rw [if_neg o1] at h ⊢
  by_cases o2 : op = 2
  · rw [if_pos o2] at h ⊢; exact gT_nbelow hx hy h
  rw [if_neg o2] at h ⊢
  by_cases o3 : op = 3
  · rw [if_pos o3] at h ⊢; exact gT_meet hx hy h
  rw [if_neg o3] at h ⊢
  by_cases o4 : op = 4
  · rw [if_pos o4] at h ⊢; exact gT_nsame hx hy h
  rw [if_neg o4] at h ⊢
  by_cases o5 : op = 5
  · rw [if_pos o5] at h ⊢; exact gT_greater hx hy h
  rw [if_neg o5] at h ⊢
  by_cases o6 : op = 6
  · rw [if_pos o6] at h ⊢; exact gT_nless hx hy h
  rw [if_neg o6] at h ⊢
  by_cases o7 : op = 7
  · rw [if_pos o7] at h ⊢; exact gQ_turn (gT_above hy hx h)
  rw [if_neg o7] at h ⊢
  by_cases o8 : op = 8
  · rw [if_pos o8] at h ⊢; exact gQ_turn (gT_nbelow hy hx h)
  rw [if_neg o8] at h ⊢
  by_cases o9 : op = 9
  · rw [if_pos o9] at h ⊢; exact gQ_turn (gT_greater hy hx h)
  rw [if_neg o9] at h ⊢
  by_cases o10 : op = 10
  · rw [if_pos o10] at h ⊢; exact gQ_turn (gT_nless hy hx h)
  rw [if_neg o10] at h ⊢
  exact gT_nmeet hx hy h
theorem gT_telw (hx : gN x a) (hy : gN y b) {op : Int32} (h : hld op a b) : gQ (fn_telw op x y) a b := by
  obtain ⟨q, q1, q2, q3⟩ := gT_rel hx hy h
  obtain ⟨s, s1, s2⟩ := gN_it q2 3
  obtain ⟨t, t1, t2⟩ := gN_it q3 3
  exact ⟨(s, t), by unfold fn_telw; exact fn_sets_s q1 s1 t1, s2, t2⟩
theorem gT_tell (hx : gN x a) (hy : gN y b) {op nar : Int32} (h : hldn op nar a b) : gQ (fn_tell op nar x y) a b := by
  unfold hldn at h
  unfold fn_tell
  by_cases n : nar = 0
  · rw [if_pos n] at h ⊢; exact gT_telw hx hy h
  rw [if_neg n] at h ⊢
  by_cases g : fn_lt (fn_most op) x.2.2.2.1 ∨ fn_lt (fn_most op) y.2.2.2.1
  · rw [if_pos g]
    by_cases s : fn_sgn op
    · rw [if_pos s]; exact ⟨_, rfl, hx, hy⟩
    · rw [if_neg s] at h ⊢
      obtain ⟨q, q1, _⟩ := gT_telw (gN_nar hx) (gN_nar hy) h
      rw [q1]
      exact ⟨(x, y), rfl, hx, hy⟩
  · rw [if_neg g]
    have a4 := hx.2.2.2.1
    have b4 := hy.2.2.2.1
    refine gT_telw hx hy ?_
    by_cases s : fn_sgn op
    · rw [if_pos s] at h
      rw [fn_most_s s, fn_lt_un, fn_lt_un, show un 2147483647 = 2147483647 from by decide] at g
      have ea : a &&& 4294967295 = a := low_id (by omega)
      have eb : b &&& 4294967295 = b := low_id (by omega)
      rw [t32_low (by rw [ea]; omega), t32_low (by rw [eb]; omega), ea, eb] at h
      exact h
    · rw [if_neg s] at h
      rw [fn_most_u s, fn_lt_un, fn_lt_un, show un 4294967295 = 4294967295 from by decide] at g
      rw [low_id (by omega), low_id (by omega)] at h
      exact h
end GT
