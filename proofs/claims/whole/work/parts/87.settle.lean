/-! PURE: the class's settling of a number is fn_settle. -/
section PS
variable {M : me_M} {j : Nat} {a b c d e f x : Int64}
theorem pf_below (x y : Int64) : f_Num_isBelow x y = some (if fn_lt x y then 1 else 0) := by
  unfold f_Num_isBelow
  by_cases h : fn_lt x y
  · rw [if_pos h, if_pos h]
  · rw [if_neg h, if_neg h]
theorem pf_raise : f_Num_raiseLeast (pn_put M j a b c d e f) j x = some (pn_put M j a b (fn_max c x) d e f) := by
  unfold f_Num_raiseLeast fn_max
  rw [pn_2]
  by_cases h : fn_lt c x
  · rw [if_pos h, if_pos h, st_eq, pn_w2]
  · rw [if_neg h, if_neg h]
theorem pf_lower : f_Num_lowerGreatest (pn_put M j a b c d e f) j x = some (pn_put M j a b c (fn_min d x) e f) := by
  unfold f_Num_lowerGreatest fn_min
  rw [pn_3]
  by_cases h : fn_lt x d
  · rw [if_pos h, if_pos h, st_eq, pn_w3]
  · rw [if_neg h, if_neg h]
theorem pf_down (x : Int64) : f_Num_downFromHighest x = some (fn_down x) := rfl
/-- the end of a round: bounds are as they will be -/
theorem pf_b102 (k2 : me_M → Int32 → Option (me_M × Int32)) (y : Int32) : f_Num_settle_b102 k2 j (pn_put M j a b c d e f) y = if fn_lt d c ∨ f < e then some (pn_put M j a b c d e f, 0) else if ((a ^^^ c) &&& (b ^^^ -1) &&& (fn_down (c ^^^ d) ^^^ -1)) = 0 then k2 (pn_put M j (a &&& fn_down (c ^^^ d) ||| c &&& (fn_down (c ^^^ d) ^^^ -1)) (b &&& fn_down (c ^^^ d)) c d e f) (y + 1) else some (pn_put M j a b c d e f, 0) := by
  unfold f_Num_settle_b102
  rw [pn_0, pn_1, pn_2, pn_3, pn_4, pn_5, pf_below, bd_some]
  by_cases h1 : fn_lt d c
  · rw [if_pos h1, if_neg (by decide), if_pos (Or.inl h1)]
  · rw [if_neg h1, if_pos rfl]
    by_cases h2 : f < e
    · rw [if_pos h2, if_pos (Or.inr h2)]
    · rw [if_neg h2, if_neg (fun z => z.elim h1 h2), pf_down, bd_some, st_eq]
      by_cases h3 : ((a ^^^ c) &&& (b ^^^ -1) &&& (fn_down (c ^^^ d) ^^^ -1)) = 0
      · rw [if_pos h3, if_pos h3, st_eq, pn_w0, st_eq, pn_1, pn_w1]
      · rw [if_neg h3, if_neg h3]
theorem pf_b72 (k2 : me_M → Int32 → Option (me_M × Int32)) (y : Int32) : f_Num_settle_b72 k2 j (pn_put M j a b c d e f) y = f_Num_settle_b102 k2 j (if e ^^^ f < 0 then pn_put M j a b c d e f else pn_put M j a b (fn_max c e) (fn_min d f) e f) y := by
  unfold f_Num_settle_b72
  rw [pn_4, pn_5]
  by_cases h : e ^^^ f < 0
  · rw [if_pos h, if_pos h]
  · rw [if_neg h, if_neg h, pf_raise, bd_some, pn_5, pf_lower, bd_some]
/-- a round -/
theorem pf_turn {fu : Nat} {y : Int32} (hy : ¬ 3 ≤ y) : f_Num_settle_l2 j (fu + 1) (pn_put M j a b c d e f) y = match fn_s1 (a, b, c, d, e, f) with
    | some x => f_Num_settle_l2 j fu (pn_put M j x.1 x.2.1 x.2.2.1 x.2.2.2.1 x.2.2.2.2.1 x.2.2.2.2.2) (y + 1)
    | none => some (pn_put M j a b (fn_sb (a, b, c, d, e, f)).1 (fn_sb (a, b, c, d, e, f)).2 (fn_sa (a, b, c, d, e, f)).1 (fn_sa (a, b, c, d, e, f)).2, 0) := by
  rw [f_Num_settle_l2, if_neg hy, pn_0, pf_raise, bd_some, pn_0, pn_1, pf_lower, bd_some, pn_2, pn_3]
  have key : ∀ (e1 f1 : Int64), fn_sa (a, b, c, d, e, f) = (e1, f1) → f_Num_settle_b72 (f_Num_settle_l2 j fu) j (pn_put M j a b (fn_max c a) (fn_min d (a ||| b)) e1 f1) y = match fn_s1 (a, b, c, d, e, f) with
    | some x => f_Num_settle_l2 j fu (pn_put M j x.1 x.2.1 x.2.2.1 x.2.2.2.1 x.2.2.2.2.1 x.2.2.2.2.2) (y + 1)
    | none => some (pn_put M j a b (fn_sb (a, b, c, d, e, f)).1 (fn_sb (a, b, c, d, e, f)).2 (fn_sa (a, b, c, d, e, f)).1 (fn_sa (a, b, c, d, e, f)).2, 0) := by
    intro e1 f1 ha
    have fin : ∀ (c1 d1 : Int64), fn_sb (a, b, c, d, e, f) = (c1, d1) → f_Num_settle_b102 (f_Num_settle_l2 j fu) j (pn_put M j a b c1 d1 e1 f1) y = match fn_s1 (a, b, c, d, e, f) with
      | some x => f_Num_settle_l2 j fu (pn_put M j x.1 x.2.1 x.2.2.1 x.2.2.2.1 x.2.2.2.2.1 x.2.2.2.2.2) (y + 1)
      | none => some (pn_put M j a b (fn_sb (a, b, c, d, e, f)).1 (fn_sb (a, b, c, d, e, f)).2 (fn_sa (a, b, c, d, e, f)).1 (fn_sa (a, b, c, d, e, f)).2, 0) := by
      intro c1 d1 hb
      rw [pf_b102]
      by_cases g : fn_lt d1 c1 ∨ f1 < e1
      · rw [if_pos g, fn_s1_n1 ha hb g, ha, hb]
      · rw [if_neg g]
        by_cases h3 : ((a ^^^ c1) &&& (b ^^^ -1) &&& (fn_down (c1 ^^^ d1) ^^^ -1)) = 0
        · rw [if_pos h3, fn_s1_s ha hb g h3]
        · rw [if_neg h3, fn_s1_n2 ha hb g h3, ha, hb]
    rw [pf_b72]
    by_cases h : e1 ^^^ f1 < 0
    · rw [if_pos h]
      exact fin _ _ (fn_sb_pos ha h)
    · rw [if_neg h]
      exact fin _ _ (fn_sb_neg ha h)
  by_cases h : fn_max c a ^^^ fn_min d (a ||| b) < 0
  · rw [if_pos h]
    exact key _ _ (fn_sa_pos h)
  · rw [if_neg h, st_eq, pn_4, pn_w4, st_eq, pn_5, pn_3, pn_w5]
    exact key _ _ (fn_sa_neg h)
/-- settling: three rounds, or none left (the number is scratch then) -/
theorem pf_settle_some {x : fn_N} (h : fn_settle (a, b, c, d, e, f) = some x) : f_Num_settle (pn_put M j a b c d e f) j = some (pn_put M j x.1 x.2.1 x.2.2.1 x.2.2.2.1 x.2.2.2.2.1 x.2.2.2.2.2, 1) := by
  unfold fn_settle fn_it fn_it fn_it fn_it at h
  obtain ⟨x2, h2, h3⟩ := Option.bind_eq_some_iff.mp h
  obtain ⟨x1, h1, h2⟩ := Option.bind_eq_some_iff.mp h2
  obtain ⟨x0, h0, h1⟩ := Option.bind_eq_some_iff.mp h1
  cases h0
  unfold f_Num_settle
  rw [show fuel = 4294967292 + 1 + 1 + 1 + 1 from rfl, pf_turn (by decide), h1]
  dsimp only
  rw [pf_turn (by decide), h2]
  dsimp only
  rw [pf_turn (by decide), h3]
  dsimp only
  rw [f_Num_settle_l2, if_pos (by decide)]
theorem pf_settle_none (h : fn_settle (a, b, c, d, e, f) = none) : ∃ a1 b1 c1 d1 e1 f1, f_Num_settle (pn_put M j a b c d e f) j = some (pn_put M j a1 b1 c1 d1 e1 f1, 0) := by
  unfold f_Num_settle
  rw [show fuel = 4294967292 + 1 + 1 + 1 + 1 from rfl, pf_turn (by decide)]
  cases h1 : fn_s1 (a, b, c, d, e, f) with
  | none => exact ⟨_, _, _, _, _, _, rfl⟩
  | some x1 =>
    obtain ⟨a1, b1, c1, d1, e1, f1⟩ := x1
    dsimp only
    rw [pf_turn (by decide)]
    cases h2 : fn_s1 (a1, b1, c1, d1, e1, f1) with
    | none => exact ⟨_, _, _, _, _, _, rfl⟩
    | some x2 =>
      obtain ⟨a2, b2, c2, d2, e2, f2⟩ := x2
      dsimp only
      rw [pf_turn (by decide)]
      cases h3 : fn_s1 (a2, b2, c2, d2, e2, f2) with
      | none => exact ⟨_, _, _, _, _, _, rfl⟩
      | some x3 =>
        exfalso
        have q : fn_settle (a, b, c, d, e, f) = some x3 := fn_it_s (fn_it_s (fn_it_s (k := 0) rfl h1) h2) h3
        rw [h] at q
        cases q
end PS
