/-! PURE: of a number, what is known and what is open are apart. -/
def nW (x : fn_N) : Prop := ∀ i, i < 64 → bt x.1 i = true → bt x.2.1 i = false
section NW
variable {x y z : fn_N} {v m : Int64}
theorem nW_0 {r : Int64 × Int64 × Int64 × Int64} : nW (0, m, r) := fun i _ h => absurd (show bt 0 i = true from h) (by rw [bt_0]; decide)
theorem nW_ex : nW (fn_ex v) := fun _ _ _ => bt_0
theorem nW_an {r : Int64 × Int64 × Int64 × Int64} : nW (v &&& (m ^^^ -1), m, r) := by
  intro i hi h
  have h2 : bt (v &&& (m ^^^ -1)) i = true := h
  show bt m i = false
  rw [bt_and, bt_not hi] at h2
  cases e : bt m i
  · rfl
  · rw [e] at h2; simp at h2
theorem nW_na {r : Int64 × Int64 × Int64 × Int64} : nW (v, m &&& (v ^^^ -1), r) := by
  intro i hi h
  have h2 : bt v i = true := h
  show bt (m &&& (v ^^^ -1)) i = false
  rw [bt_and, bt_not hi, h2]
  simp
theorem nW_e {r q : Int64 × Int64 × Int64 × Int64} (h : nW (v, m, r)) : nW (v, m, q) := h
theorem nW_shift (hx : nW x) {op : Int32} : nW (fn_shift x.1 x.2.1 x.2.2.1 x.2.2.2.1 x.2.2.2.2.1 x.2.2.2.2.2 y.1 y.2.1 op) := by
  unfold fn_shift
  by_cases e : y.2.1 = 0
  · rw [if_pos e]
    obtain ⟨k, hk, ek⟩ := by_63 y.1
    rw [ek]
    by_cases o8 : op = 8
    · rw [if_pos o8]
      intro i hi z
      have z2 : bt (jlshl x.1 (nI k)) i = true := z
      show bt (jlshl x.2.1 (nI k)) i = false
      rw [bt_shl hk, decide_eq_true hi, Bool.true_and] at z2 ⊢
      by_cases g : i < k
      · rw [decide_eq_true g]; rfl
      · rw [decide_eq_false g, Bool.not_false, Bool.true_and] at z2 ⊢
        exact hx (i - k) (by omega) z2
    · rw [if_neg o8]
      by_cases o9 : op = 9
      · rw [if_pos o9]
        intro i hi z
        have z2 : bt (jlushr x.1 (nI k)) i = true := z
        show bt (jlushr x.2.1 (nI k)) i = false
        rw [bt_ush hk] at z2 ⊢
        by_cases g : k + i < 64
        · exact hx _ g z2
        · exact bt_ge (by omega)
      · rw [if_neg o9]
        intro i hi z
        have z2 : bt (jlshr x.1 (nI k)) i = true := z
        show bt (jlshr x.2.1 (nI k)) i = false
        rw [bt_shr hk hi] at z2 ⊢
        by_cases g : k + i < 64
        · rw [if_pos g] at z2 ⊢
          exact hx _ g z2
        · rw [if_neg g] at z2 ⊢
          exact hx _ (by decide) z2
  · rw [if_neg e]
    exact nW_0
theorem nW_raw (hx : nW x) (hy : nW y) {op : Int32} : nW (fn_rawT x y op) := by
  have cut : ∀ b, nW (fn_cut x.1 x.2.1 x.2.2.1 x.2.2.2.1 x.2.2.2.2.1 x.2.2.2.2.2 b) := by
    intro b
    unfold fn_cut fn_and
    split
    · exact nW_na
    · exact hx
  have sh := nW_shift (y := y) (op := op) hx
  unfold fn_rawT fn_raw
  by_cases o0 : op = 0
  · rw [if_pos o0]; exact nW_an
  rw [if_neg o0]
  by_cases o1 : op = 1
  · rw [if_pos o1]; exact nW_an
  rw [if_neg o1]
  by_cases o2 : op = 2
  · rw [if_pos o2]
    unfold fn_mul fn_mul1
    by_cases g : x.2.1 = 0
    · rw [if_pos g]
      by_cases g : y.2.1 = 0
      · rw [if_pos g]; exact nW_ex
      · rw [if_neg g]; exact nW_0
    · rw [if_neg g]; exact nW_0
  rw [if_neg o2]
  by_cases o3 : op = 3
  · rw [if_pos o3]
    unfold fn_div
    by_cases g : y.2.1 = 0
    · rw [if_pos g]
      by_cases g : y.1 = 0
      · rw [if_pos g]; exact nW_ex
      · rw [if_neg g]; exact nW_0
    · rw [if_neg g]; exact nW_0
  rw [if_neg o3]
  by_cases o4 : op = 4
  · rw [if_pos o4]
    unfold fn_rest
    by_cases g : y.2.1 = 0
    · rw [if_pos g]
      by_cases g : y.1 = 0
      · rw [if_pos g]; exact hx
      · rw [if_neg g]
        by_cases g : fn_lt x.2.2.2.1 y.1
        · rw [if_pos g]; exact hx
        · rw [if_neg g]; exact nW_0
    · rw [if_neg g]; exact nW_0
  rw [if_neg o4]
  by_cases o5 : op = 5
  · rw [if_pos o5]; exact nW_na
  rw [if_neg o5]
  by_cases o6 : op = 6
  · rw [if_pos o6]; exact nW_na
  rw [if_neg o6]
  by_cases o7 : op = 7
  · rw [if_pos o7]; exact nW_an
  rw [if_neg o7]
  by_cases o11 : op = 11
  · rw [if_pos o11]; exact nW_an
  rw [if_neg o11]
  by_cases o12 : op = 12
  · rw [if_pos o12]; exact hy
  rw [if_neg o12]
  by_cases o13 : op = 13
  · rw [if_pos o13]
    unfold fn_swp
    by_cases g : x.2.1 = 0
    · rw [if_pos g, if_pos g, if_pos g]
      by_cases g : y.2.1 = 0 ∧ y.1 = 2
      · rw [if_pos g]; exact nW_ex
      · rw [if_neg g]
        by_cases g : y.2.1 = 0 ∧ y.1 = 4
        · rw [if_pos g]; exact nW_ex
        · rw [if_neg g]; exact nW_ex
    · rw [if_neg g, if_neg g, if_neg g]
      by_cases g : y.2.1 = 0 ∧ y.1 = 2
      · rw [if_pos g]; exact nW_0
      · rw [if_neg g]
        by_cases g : y.2.1 = 0 ∧ y.1 = 4
        · rw [if_pos g]; exact nW_0
        · rw [if_neg g]; exact nW_0
  rw [if_neg o13]
  by_cases o14 : op = 14
  · rw [if_pos o14]
    by_cases g : y.2.1 = 0 ∧ y.1 = 2
    · rw [if_pos g]; exact cut _
    · rw [if_neg g]
      by_cases g : y.2.1 = 0 ∧ y.1 = 4
      · rw [if_pos g]; exact cut _
      · rw [if_neg g]; exact cut _
  rw [if_neg o14]
  exact sh
theorem nW_s1 (hx : nW x) (h : fn_s1 x = some y) : nW y := by
  unfold fn_s1 at h
  split at h
  · exact absurd h (by simp)
  split at h
  · rw [← Option.some.inj h]
    intro i hi z
    have z2 : bt (x.1 &&& fn_so x ||| (fn_sb x).1 &&& (fn_so x ^^^ -1)) i = true := z
    show bt (x.2.1 &&& fn_so x) i = false
    rw [bt_or, bt_and, bt_and, bt_not hi] at z2
    rw [bt_and]
    cases s : bt (fn_so x) i
    · rw [Bool.and_false]
    · rw [s] at z2
      simp at z2
      rw [hx i hi z2, Bool.false_and]
  · exact absurd h (by simp)
theorem nW_it (hx : nW x) : ∀ k y, fn_it k x = some y → nW y := by
  intro k
  induction k with
  | zero => intro y h; rw [← Option.some.inj h]; exact hx
  | succ k ih =>
    intro y h
    rw [fn_it] at h
    cases e : fn_it k x with
    | none => rw [e] at h; exact absurd h (by simp)
    | some u => rw [e] at h; exact nW_s1 (ih u e) h
theorem nW_get (hx : nW x) (hz : nW z) : nW ((fn_it 3 x).getD z) := by
  cases e : fn_it 3 x with
  | none => exact hz
  | some u => exact nW_it hx 3 u e
theorem nW_fin (hx : nW x) : nW (fn_fin x) := nW_get hx nW_0
theorem nW_nar (hx : nW x) : nW (fn_narT x) := by
  unfold fn_narT fn_nar
  split
  · refine nW_get ?_ nW_0
    intro i hi z
    have z2 : bt (x.1 &&& 4294967295) i = true := z
    show bt (x.2.1 &&& 4294967295) i = false
    rw [bt_and] at z2 ⊢
    rw [Bool.and_eq_true] at z2
    rw [hx i hi z2.1, Bool.false_and]
  · exact hx
theorem nW_by5 (hy : nW y) {op : Int32} : nW (fn_by5 op y) := by
  unfold fn_by5
  by_cases g : op < 8
  · rw [if_pos g]; exact hy
  rw [if_neg g]
  by_cases g : 10 < op
  · rw [if_pos g]; exact hy
  rw [if_neg g]
  by_cases g : y.2.1 = 0
  · rw [if_pos g]; exact nW_ex
  · rw [if_neg g]; exact hy
theorem nW_opk (hx : nW x) (hy : nW y) {op : Int32} : nW (fn_opk op x y) := by
  unfold fn_opk
  by_cases g : op = 10
  · rw [if_pos g]
    by_cases g : fn_lt 2147483647 x.2.2.2.1
    · rw [if_pos g]; exact nW_nar nW_0
    · rw [if_neg g]; exact nW_nar (nW_fin (nW_raw hx hy))
  · rw [if_neg g]; exact nW_nar (nW_fin (nW_raw hx hy))
theorem nW_op (hx : nW x) (hy : nW y) {op nar : Int32} : nW (fn_op op nar x y) := by
  unfold fn_op
  by_cases g : nar = 0
  · rw [if_pos g]; exact nW_fin (nW_raw hx hy)
  · rw [if_neg g]; exact nW_opk (nW_nar hx) (nW_by5 (nW_nar hy))
theorem nW_rd {n : Int32} : nW (fn_rd n) := by
  unfold fn_rd
  split
  · exact nW_0
  · exact nW_fin nW_0
/-- pairs -/
def nP (r : fn_NN) : Prop := ∀ q, r = some q → nW q.1 ∧ nW q.2
theorem nP_n : nP none := fun q h => absurd h (by simp)
theorem nP_s (hx : nW x) (hy : nW y) : nP (some (x, y)) := fun q h => by rw [← Option.some.inj h]; exact ⟨hx, hy⟩
theorem nP_turn {r : fn_NN} (h : nP r) : nP (fn_turn r) := by
  cases r with
  | none => exact nP_n
  | some q => exact nP_s (h q rfl).2 (h q rfl).1
theorem nW_meet1 (hx : nW x) {a b c d e f g h : Int64} (e1 : a = x.1) (e2 : b = x.2.1) : nW (fn_meet1 a b c d e f g h) := by
  subst e1 e2
  unfold fn_meet1
  by_cases q : h = 0
  · rw [if_pos q]
    by_cases q : fn_bc g = 1
    · rw [if_pos q]
      intro i hi z
      have z2 : bt (x.1 ||| g) i = true := z
      show bt (x.2.1 &&& (g ^^^ -1)) i = false
      rw [bt_and, bt_not hi]
      rw [bt_or, Bool.or_eq_true] at z2
      rcases z2 with z2 | z2
      · rw [hx i hi z2, Bool.false_and]
      · rw [z2]; simp
    · rw [if_neg q]; exact hx
  · rw [if_neg q]; exact hx
theorem nW_exc (hx : nW x) {b : Int64} : ∀ u, fn_exc x.1 x.2.1 x.2.2.1 x.2.2.2.1 x.2.2.2.2.1 x.2.2.2.2.2 b = some u → nW u := by
  intro u h
  unfold fn_exc at h
  by_cases g : x.2.1 = 0
  · rw [if_pos g] at h
    by_cases g : x.1 = b
    · rw [if_pos g] at h; exact absurd h (by simp)
    · rw [if_neg g] at h; rw [← Option.some.inj h]; exact hx
  · rw [if_neg g] at h; rw [← Option.some.inj h]; exact hx
theorem nP_nsame1 (hx : nW x) (hy : nW y) (hz : nW z) : nP (fn_nsame1 x.1 x.2.1 y.1 y.2.1 y.2.2.1 y.2.2.2.1 y.2.2.2.2.1 y.2.2.2.2.2 z) := by
  unfold fn_nsame1
  by_cases g : x.2.1 = 0
  · rw [if_pos g]
    have k := nW_exc hy (b := x.1)
    cases e : fn_exc y.1 y.2.1 y.2.2.1 y.2.2.2.1 y.2.2.2.2.1 y.2.2.2.2.2 x.1 with
    | none => exact nP_n
    | some u => exact nP_s hz (k u e)
  · rw [if_neg g]; exact nP_s hz hy
theorem nP_rel (hx : nW x) (hy : nW y) {op : Int32} : nP (fn_relT x y op) := by
  have ab : ∀ {x y : fn_N}, nW x → nW y → nP (fn_above x.1 x.2.1 x.2.2.1 x.2.2.2.1 x.2.2.2.2.1 x.2.2.2.2.2 y.1 y.2.1 y.2.2.1 y.2.2.2.1 y.2.2.2.2.1 y.2.2.2.2.2) := by
    intro x y hx hy
    unfold fn_above
    by_cases g : y.2.2.1 = -1
    · rw [if_pos g]; exact nP_n
    rw [if_neg g]
    by_cases g : x.2.2.2.1 = 0
    · rw [if_pos g]; exact nP_n
    rw [if_neg g]
    exact nP_s hx hy
  have gr : ∀ {x y : fn_N}, nW x → nW y → nP (fn_greater x.1 x.2.1 x.2.2.1 x.2.2.2.1 x.2.2.2.2.1 x.2.2.2.2.2 y.1 y.2.1 y.2.2.1 y.2.2.2.1 y.2.2.2.2.1 y.2.2.2.2.2) := by
    intro x y hx hy
    unfold fn_greater
    by_cases g : y.2.2.2.2.1 = 9223372036854775807
    · rw [if_pos g]; exact nP_n
    rw [if_neg g]
    by_cases g : x.2.2.2.2.2 = -9223372036854775808
    · rw [if_pos g]; exact nP_n
    rw [if_neg g]
    exact nP_s hx hy
  unfold fn_relT fn_rel
  by_cases o0 : op = 0
  · rw [if_pos o0]
    unfold fn_same
    by_cases g : ((x.1 ^^^ y.1) &&& (x.2.1 ^^^ -1)) &&& (y.2.1 ^^^ -1) = 0
    · rw [if_pos g]
      have k : ∀ r, nW (x.1 ||| y.1, x.2.1 &&& y.2.1, r) := by
        intro r i hi z
        have z2 : bt (x.1 ||| y.1) i = true := z
        show bt (x.2.1 &&& y.2.1) i = false
        rw [bt_or, Bool.or_eq_true] at z2
        rw [bt_and]
        rcases z2 with z2 | z2
        · rw [hx i hi z2, Bool.false_and]
        · rw [hy i hi z2, Bool.and_false]
      exact nP_s (k _) (k _)
    · rw [if_neg g]; exact nP_n
  rw [if_neg o0]
  by_cases o1 : op = 1
  · rw [if_pos o1]; exact ab hx hy
  rw [if_neg o1]
  by_cases o2 : op = 2
  · rw [if_pos o2]; exact nP_s hx hy
  rw [if_neg o2]
  by_cases o3 : op = 3
  · rw [if_pos o3]
    unfold fn_meet
    by_cases g : ((x.1 ||| x.2.1) &&& (y.1 ||| y.2.1)) = 0
    · rw [if_pos g]; exact nP_n
    · rw [if_neg g]; exact nP_s (nW_meet1 hx rfl rfl) (nW_meet1 hy rfl rfl)
  rw [if_neg o3]
  by_cases o4 : op = 4
  · rw [if_pos o4]
    unfold fn_nsame
    by_cases g : y.2.1 = 0
    · rw [if_pos g]
      have k := nW_exc hx (b := y.1)
      cases e : fn_exc x.1 x.2.1 x.2.2.1 x.2.2.2.1 x.2.2.2.2.1 x.2.2.2.2.2 y.1 with
      | none => exact nP_n
      | some u => exact nP_nsame1 hx hy (k u e)
    · rw [if_neg g]; exact nP_nsame1 hx hy hx
  rw [if_neg o4]
  by_cases o5 : op = 5
  · rw [if_pos o5]; exact gr hx hy
  rw [if_neg o5]
  by_cases o6 : op = 6
  · rw [if_pos o6]; exact nP_s hx hy
  rw [if_neg o6]
  by_cases o7 : op = 7
  · rw [if_pos o7]; exact nP_turn (ab hy hx)
  rw [if_neg o7]
  by_cases o8 : op = 8
  · rw [if_pos o8]; exact nP_turn (nP_s hy hx)
  rw [if_neg o8]
  by_cases o9 : op = 9
  · rw [if_pos o9]; exact nP_turn (gr hy hx)
  rw [if_neg o9]
  by_cases o10 : op = 10
  · rw [if_pos o10]; exact nP_turn (nP_s hy hx)
  rw [if_neg o10]
  unfold fn_nmeet
  have nn : ∀ {x : fn_N} {c b : Int64} {r : Int64 × Int64 × Int64 × Int64}, nW x → nW (x.1, (if c = 0 then x.2.1 &&& (b ^^^ -1) else x.2.1), r) := by
    intro x c b r hx
    by_cases g : c = 0
    · rw [if_pos g]
      intro i hi z
      show bt (x.2.1 &&& (b ^^^ -1)) i = false
      rw [bt_and, hx i hi z, Bool.false_and]
    · rw [if_neg g]; exact hx
  by_cases g : x.1 &&& y.1 = 0
  · rw [if_pos g]; exact nP_s (nn hx) (nn hy)
  · rw [if_neg g]; exact nP_n
theorem nP_telw (hx : nW x) (hy : nW y) {op : Int32} : nP (fn_telw op x y) := by
  unfold fn_telw fn_sets
  have k := nP_rel hx hy (op := op)
  cases e : fn_relT x y op with
  | none => exact nP_n
  | some q =>
    obtain ⟨k1, k2⟩ := k q e
    show nP (match fn_it 3 q.1 with
      | none => none
      | some a => match fn_it 3 q.2 with
        | none => none
        | some b => some (a, b))
    cases e1 : fn_it 3 q.1 with
    | none => exact nP_n
    | some a =>
      show nP (match fn_it 3 q.2 with
        | none => none
        | some b => some (a, b))
      cases e2 : fn_it 3 q.2 with
      | none => exact nP_n
      | some b => exact nP_s (nW_it k1 3 a e1) (nW_it k2 3 b e2)
theorem nP_tell (hx : nW x) (hy : nW y) {op nar : Int32} : nP (fn_tell op nar x y) := by
  unfold fn_tell
  by_cases g : nar = 0
  · rw [if_pos g]; exact nP_telw hx hy
  rw [if_neg g]
  by_cases g : fn_lt (fn_most op) x.2.2.2.1 ∨ fn_lt (fn_most op) y.2.2.2.1
  · rw [if_pos g]
    by_cases g : fn_sgn op
    · rw [if_pos g]; exact nP_s hx hy
    · rw [if_neg g]
      cases fn_telw op (fn_narT x) (fn_narT y) with
      | none => exact nP_n
      | some q => exact nP_s hx hy
  · rw [if_neg g]; exact nP_telw hx hy
end NW
