/-! States: their cells as functions. -/
theorem fs_lit {i : Nat} (h : i < 75) : i ∈ fs_r := List.mem_range.mpr h
theorem fs_topN {ad : Nat → Nat} {k pa : Nat} (h : k < 75) (ha : pa = ad k) : fs_a ad (nI k).toNatClampNeg = some pa := by
  rw [ha, nI_clamp (by omega)]
  rfl
def fn_imax (x y : Int32) : Int32 := if x < y then y else x
def fn_imin (x y : Int32) : Int32 := if y < x then y else x
def fc_clear (c : fc_T) : fc_T := (0, c.2.1, c.2.2.1, c.2.2.2.1, c.2.2.2.2.1, 0, c.2.2.2.2.2.2)
def fs_clr (C : Nat → fc_T) (a k : Nat) : Nat → fc_T := fun j => if a ≤ j ∧ j < k then fc_clear (C j) else C j
theorem fs_clr0 {C : Nat → fc_T} {a : Nat} : C = fs_clr C a a := by
  funext j
  unfold fs_clr
  rw [if_neg (by omega)]
theorem fs_clrS {C : Nat → fc_T} {a k : Nat} {k1 p1 m1 i1 r1 w1 : Int32} {n1 n2 n3 n4 n5 n6 : Int64} (h : a ≤ k) (hc : fs_clr C a k k = (k1, p1, m1, i1, r1, w1, n1, n2, n3, n4, n5, n6)) : fs_u (fs_clr C a k) k (0, p1, m1, i1, r1, 0, n1, n2, n3, n4, n5, n6) = fs_clr C a (k + 1) := by
  have hk : fs_clr C a k k = C k := by unfold fs_clr; rw [if_neg (by omega)]
  rw [hk] at hc
  funext j
  by_cases e : j = k
  · subst e
    rw [fs_uself]
    unfold fs_clr fc_clear
    rw [if_pos (by omega), hc]
  · rw [fs_une e]
    unfold fs_clr
    by_cases q : a ≤ j ∧ j < k
    · rw [if_pos q, if_pos (by omega)]
    · rw [if_neg q, if_neg (by omega)]
theorem fs_clrE {C : Nat → fc_T} {a k u : Nat} (h : k ≤ u ∨ k = a) (h2 : u ≤ k) : fs_clr C a k = fs_clr C a u := by
  rcases h with h | h
  · rw [Nat.le_antisymm h h2]
  · subst h
    rw [← fs_clr0]
    funext j
    unfold fs_clr
    rw [if_neg (by omega)]
/-- the contents of b into a -/
def fc_copy (a b : fc_T) : fc_T :=
  let y := fc_cpn a.2.2.2.2.2.2 b.2.2.2.2.2.2 b.1
  (b.1, fc_cp a.2.1 b.1 b.2.1, fc_cp a.2.2.1 b.1 b.2.2.1, fc_cp a.2.2.2.1 b.1 b.2.2.2.1, fc_cp a.2.2.2.2.1 b.1 b.2.2.2.2.1, b.2.2.2.2.2.1, y)
def fs_cp (C E : Nat → fc_T) (k : Nat) : Nat → fc_T := fun j => if j < k then fc_copy (C j) (E j) else C j
theorem fs_cp0 {C E : Nat → fc_T} : C = fs_cp C E 0 := by
  funext j
  unfold fs_cp
  rw [if_neg (by omega)]
theorem fs_cpS {C E : Nat → fc_T} {k : Nat} {k1 k2 k3 k4 k5 k6 l1 l2 l3 l4 l5 l6 p2 p3 p4 p5 : Int32} {n1 n2 n3 n4 n5 n6 o1 o2 o3 o4 o5 o6 y1 y2 y3 y4 y5 y6 : Int64} (hc : fs_cp C E k k = (k1, k2, k3, k4, k5, k6, n1, n2, n3, n4, n5, n6)) (he : E k = (l1, l2, l3, l4, l5, l6, o1, o2, o3, o4, o5, o6))
    (hw : fc_cp k2 l1 l2 = p2 ∧ fc_cp k3 l1 l3 = p3 ∧ fc_cp k4 l1 l4 = p4 ∧ fc_cp k5 l1 l5 = p5 ∧ fc_cpn (n1, n2, n3, n4, n5, n6) (o1, o2, o3, o4, o5, o6) l1 = (y1, y2, y3, y4, y5, y6)) :
    fs_u (fs_cp C E k) k (l1, p2, p3, p4, p5, l6, y1, y2, y3, y4, y5, y6) = fs_cp C E (k + 1) := by
  have hk : fs_cp C E k k = C k := by unfold fs_cp; rw [if_neg (by omega)]
  rw [hk] at hc
  obtain ⟨h2, h3, h4, h5, h6⟩ := hw
  funext j
  by_cases e : j = k
  · subst e
    rw [fs_uself]
    unfold fs_cp fc_copy
    rw [if_pos (by omega), hc, he]
    simp only [h2, h3, h4, h5, h6]
  · rw [fs_une e]
    unfold fs_cp
    by_cases q : j < k
    · rw [if_pos q, if_pos (by omega)]
    · rw [if_neg q, if_neg (by omega)]
/-- a pointer or the like: no identity, no room, no map; its number is 0 -/
def fc_become (c : fc_T) (k p : Int32) : fc_T := (k, p, 0, 0, 0, c.2.2.2.2.2.1, 0, 0, 0, 0, 0, 0)
theorem fs_become {C : Nat → fc_T} {i : Nat} {k p k1 p1 m1 i1 r1 w1 : Int32} {n1 n2 n3 n4 n5 n6 : Int64} (hc : C i = (k1, p1, m1, i1, r1, w1, n1, n2, n3, n4, n5, n6)) : fs_u C i (k, p, 0, 0, 0, w1, 0, 0, 0, 0, 0, 0) = fs_u C i (fc_become (C i) k p) := by
  unfold fc_become
  rw [hc]
/-- a state at its first -/
def fs_first (C : Nat → fc_T) (u : Nat) : Nat → fc_T :=
  let E := fs_clr C 0 u
  let F := fs_u E 1 (fc_become (E 1) 2 0)
  fs_u F 10 (fc_become (F 10) 3 0)
def fs_slotI (x : Int32) : Int32 := (11 : Int32) + fn_imax 0 (fn_imin ((-1 - x) >>> (3 &&& 31)) 63)
theorem fs_slot_rng (x : Int32) : ∃ j : Nat, 11 ≤ j ∧ j < 75 ∧ fs_slotI x = nI j := by
  have h : ∃ j : Nat, j ≤ 63 ∧ fn_imax 0 (fn_imin ((-1 - x) >>> (3 &&& 31)) 63) = nI j := by
    generalize (-1 - x) >>> (3 &&& 31) = y
    unfold fn_imax fn_imin
    by_cases h1 : (63 : Int32) < y
    · rw [if_pos h1, if_pos (by decide)]; exact ⟨63, by omega, rfl⟩
    · rw [if_neg h1]
      by_cases h2 : (0 : Int32) < y
      · rw [if_pos h2]
        obtain ⟨j, h3, h4⟩ := nI_of2 (M := 63) (n := 63) rfl (fun z => Int32.lt_irrefl (Int32.lt_trans z h2)) (Int32.not_lt.mp h1)
        exact ⟨j, h3, h4⟩
      · rw [if_neg h2]; exact ⟨0, by omega, rfl⟩
  obtain ⟨j, h1, h2⟩ := h
  refine ⟨11 + j, by omega, by omega, ?_⟩
  unfold fs_slotI
  rw [h2]
  exact nI_add 11 j
/-- the slot of the stack that holds the byte at a place -/
def fs_slot (x : Int32) : Nat := (fs_slotI x).toNatClampNeg
theorem fs_slot_eq (x : Int32) : fs_slotI x = nI (fs_slot x) ∧ 11 ≤ fs_slot x ∧ fs_slot x < 75 := by
  obtain ⟨j, h1, h2, h3⟩ := fs_slot_rng x
  have : fs_slot x = j := by unfold fs_slot; rw [h3, nI_clamp (by omega)]
  rw [this]
  exact ⟨h3, h1, h2⟩
theorem fn_imaxN {a b : Nat} (ha : a < 2 ^ 31) (hb : b < 2 ^ 31) : fn_imax (nI a) (nI b) = nI (max a b) := by
  unfold fn_imax
  by_cases h : a < b
  · rw [if_pos (nI_lt h hb), Nat.max_eq_right (by omega)]
  · rw [if_neg (nI_nlt (by omega) ha), Nat.max_eq_left (by omega)]
