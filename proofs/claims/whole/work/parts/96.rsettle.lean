/-! PURE: the reference's settling and operations are those of 86 and 88. -/
theorem i64_lt {x y : Int64} : x < y ↔ x.toInt < y.toInt := Int64.lt_iff_toInt_lt
theorem fn_smin_c {x y : Int64} : fn_smin x y = if x < y then x else y := by
  unfold fn_smin
  by_cases h : y < x
  · rw [if_pos h, if_neg (by rw [i64_lt] at h ⊢; omega)]
  · rw [if_neg h]
    by_cases g : x < y
    · rw [if_pos g]
    · rw [if_neg g]
      apply Int64.toInt_inj.mp
      rw [i64_lt] at h g
      omega
section RM
variable {M : me_M} {i j : Nat} {x y : Int32} {a b c d e f v w : Int64}
theorem ps_put (h : ps_M M) : ps_M (rn_put M i a b c d e f) := ps_M_of rfl rfl h
theorem pe_put (h : ps_M M) (hx : ok x i) : f_M_isEmpty (rn_put M i a b c d e f) 0 x = some (rn_put M i a b c d e f, if fn_lt d c ∨ f < e then 1 else 0) := by
  rw [pm_isEmpty (ps_put h) hx]
  unfold rg
  simp only [rn_2, rn_3, rn_4, rn_5, if_true]
theorem px_put (h : ps_M M) (hx : ok x i) : f_M_isExact (rn_put M i a b c d e f) 0 x = some (rn_put M i a b c d e f, if b = 0 then 1 else 0) := by
  rw [pm_isExact (ps_put h) hx]
  unfold rg
  simp only [rn_1, if_true]
theorem pm_byBits (h : ps_M M) (hx : ok x i) : f_M_byBits (rn_put M i a b c d e f) 0 x = some (rn_put M i a b (fn_max c a) (fn_min d (a ||| b)) e f, if fn_lt (fn_min d (a ||| b)) (fn_max c a) ∨ f < e then 0 else 1) := by
  unfold f_M_byBits
  simp only [bd_some, b2_some, st_eq, rs_52 h, rs_53 h, rs_54 h, rs_55 h, rs_56 h, rs_57 h, rz_16_6 h, rz_16_7 h, rz_16_8 h, rz_16_9 h, rz_16_10 h, rz_16_11 h, gd, rn_R, rn_Z, pR_L, pZ_L, hx.2.1, ok_g hx, if_true, pm_greater, pm_lesser, rn_0, rn_w0, rn_1, rn_w1, rn_2, rn_w2, rn_3, rn_w3, rn_4, rn_w4, rn_5, rn_w5, pe_put h hx]
  by_cases g : fn_lt (fn_min d (a ||| b)) (fn_max c a) ∨ f < e
  · rw [if_pos g, if_pos g, if_neg (by decide)]
  · rw [if_neg g, if_neg g, if_pos rfl]
theorem pm_toSigned (h : ps_M M) (hx : ok x i) : f_M_toSigned (rn_put M i a b c d e f) 0 x = if c ^^^ d < 0 then some (rn_put M i a b c d e f, if fn_lt d c ∨ f < e then 0 else 1) else some (rn_put M i a b c d (fn_smax e c) (fn_smin f d), if fn_lt d c ∨ fn_smin f d < fn_smax e c then 0 else 1) := by
  have b32 : ∀ s0 s1 : Int32, f_M_toSigned_b32 0 x (rn_put M i a b c d e f) s0 s1 = if s1 = s0 then some (rn_put M i a b c d (fn_smax e c) (fn_smin f d), if fn_lt d c ∨ fn_smin f d < fn_smax e c then 0 else 1) else some (rn_put M i a b c d e f, if fn_lt d c ∨ f < e then 0 else 1) := by
    intro s0 s1
    unfold f_M_toSigned_b32 f_M_toSigned_b71
    simp only [bd_some, b2_some, st_eq, rs_52 h, rs_53 h, rs_54 h, rs_55 h, rs_56 h, rs_57 h, rz_16_6 h, rz_16_7 h, rz_16_8 h, rz_16_9 h, rz_16_10 h, rz_16_11 h, gd, rn_R, rn_Z, pR_L, pZ_L, hx.2.1, ok_g hx, if_true, rn_0, rn_w0, rn_1, rn_w1, rn_2, rn_w2, rn_3, rn_w3, rn_4, rn_w4, rn_5, rn_w5, pe_put h hx]
    by_cases g : s1 = s0
    · rw [if_pos g, if_pos g]
      rw [fn_smin_c]
      unfold fn_smax
      by_cases g1 : c < e <;> by_cases g2 : f < d <;> by_cases g3 : fn_lt d c ∨ (if f < d then f else d) < (if c < e then e else c) <;> simp only [g1, g2, if_true, if_false] at g3 ⊢ <;> simp [g3]
    · rw [if_neg g, if_neg g]
      by_cases g3 : fn_lt d c ∨ f < e <;> simp [g3]
  unfold f_M_toSigned f_M_toSigned_b16
  simp only [bd_some, b2_some, st_eq, rs_52 h, rs_53 h, rs_54 h, rs_55 h, rs_56 h, rs_57 h, rz_16_6 h, rz_16_7 h, rz_16_8 h, rz_16_9 h, rz_16_10 h, rz_16_11 h, gd, rn_R, rn_Z, pR_L, pZ_L, hx.2.1, ok_g hx, if_true, rn_0, rn_w0, rn_1, rn_w1, rn_2, rn_w2, rn_3, rn_w3, rn_4, rn_w4, rn_5, rn_w5, b32]
  by_cases g1 : c < 0 <;> by_cases g2 : d < 0
  · rw [if_neg (show ¬ c ^^^ d < 0 from fun z => (neg_xor.mp z) ⟨fun _ => g2, fun _ => g1⟩)]
    simp [g1, g2]
  · rw [if_pos (show c ^^^ d < 0 from neg_xor.mpr (fun z => g2 (z.mp g1)))]
    simp [g1, g2]
  · rw [if_pos (show c ^^^ d < 0 from neg_xor.mpr (fun z => g1 (z.mpr g2)))]
    simp [g1, g2]
  · rw [if_neg (show ¬ c ^^^ d < 0 from fun z => (neg_xor.mp z) ⟨fun q => absurd q g1, fun q => absurd q g2⟩)]
    simp [g1, g2]
theorem pm_toUnsigned (h : ps_M M) (hx : ok x i) : f_M_toUnsigned (rn_put M i a b c d e f) 0 x = if e ^^^ f < 0 then some (rn_put M i a b c d e f, if fn_lt d c ∨ f < e then 0 else 1) else some (rn_put M i a b (fn_max c e) (fn_min d f) e f, if fn_lt (fn_min d f) (fn_max c e) ∨ f < e then 0 else 1) := by
  have b32 : ∀ s0 s1 : Int32, f_M_toUnsigned_b32 0 x (rn_put M i a b c d e f) s0 s1 = if s1 = s0 then some (rn_put M i a b (fn_max c e) (fn_min d f) e f, if fn_lt (fn_min d f) (fn_max c e) ∨ f < e then 0 else 1) else some (rn_put M i a b c d e f, if fn_lt d c ∨ f < e then 0 else 1) := by
    intro s0 s1
    unfold f_M_toUnsigned_b32
    simp only [bd_some, b2_some, st_eq, rs_52 h, rs_53 h, rs_54 h, rs_55 h, rs_56 h, rs_57 h, rz_16_6 h, rz_16_7 h, rz_16_8 h, rz_16_9 h, rz_16_10 h, rz_16_11 h, gd, rn_R, rn_Z, pR_L, pZ_L, hx.2.1, ok_g hx, if_true, rn_0, rn_w0, rn_1, rn_w1, rn_2, rn_w2, rn_3, rn_w3, rn_4, rn_w4, rn_5, rn_w5, pe_put h hx, pm_greater, pm_lesser]
    by_cases g : s1 = s0
    · rw [if_pos g, if_pos g]
      by_cases g3 : fn_lt (fn_min d f) (fn_max c e) ∨ f < e <;> simp [g3]
    · rw [if_neg g, if_neg g]
      by_cases g3 : fn_lt d c ∨ f < e <;> simp [g3]
  unfold f_M_toUnsigned f_M_toUnsigned_b16
  simp only [bd_some, b2_some, st_eq, rs_52 h, rs_53 h, rs_54 h, rs_55 h, rs_56 h, rs_57 h, rz_16_6 h, rz_16_7 h, rz_16_8 h, rz_16_9 h, rz_16_10 h, rz_16_11 h, gd, rn_R, rn_Z, pR_L, pZ_L, hx.2.1, ok_g hx, if_true, rn_0, rn_w0, rn_1, rn_w1, rn_2, rn_w2, rn_3, rn_w3, rn_4, rn_w4, rn_5, rn_w5, b32]
  by_cases g1 : e < 0 <;> by_cases g2 : f < 0
  · rw [if_neg (show ¬ e ^^^ f < 0 from fun z => (neg_xor.mp z) ⟨fun _ => g2, fun _ => g1⟩)]
    simp [g1, g2]
  · rw [if_pos (show e ^^^ f < 0 from neg_xor.mpr (fun z => g2 (z.mp g1)))]
    simp [g1, g2]
  · rw [if_pos (show e ^^^ f < 0 from neg_xor.mpr (fun z => g1 (z.mpr g2)))]
    simp [g1, g2]
  · rw [if_neg (show ¬ e ^^^ f < 0 from fun z => (neg_xor.mp z) ⟨fun q => absurd q g1, fun q => absurd q g2⟩)]
    simp [g1, g2]
theorem pm_toBits (h : ps_M M) (hx : ok x i) : f_M_toBits (rn_put M i a b c d e f) 0 x = if ((a ^^^ c) &&& (b ^^^ -1) &&& (fn_down (c ^^^ d) ^^^ -1)) = 0 then some (rn_put M i (a &&& fn_down (c ^^^ d) ||| c &&& (fn_down (c ^^^ d) ^^^ -1)) (b &&& fn_down (c ^^^ d)) c d e f, if fn_lt d c ∨ f < e then 0 else 1) else some (rn_put M i a b c d e f, 0) := by
  unfold f_M_toBits
  simp only [bd_some, b2_some, st_eq, rs_52 h, rs_53 h, rs_54 h, rs_55 h, rs_56 h, rs_57 h, rz_16_6 h, rz_16_7 h, rz_16_8 h, rz_16_9 h, rz_16_10 h, rz_16_11 h, gd, rn_R, rn_Z, pR_L, pZ_L, hx.2.1, ok_g hx, if_true, rn_0, rn_w0, rn_1, rn_w1, rn_2, rn_w2, rn_3, rn_w3, rn_4, rn_w4, rn_5, rn_w5, pe_put h hx, pm_places]
  by_cases g : ((a ^^^ c) &&& (b ^^^ -1) &&& (fn_down (c ^^^ d) ^^^ -1)) = 0
  · rw [if_pos g, if_pos g]
    by_cases g3 : fn_lt d c ∨ f < e <;> simp [g3]
  · rw [if_neg g, if_neg g]
/-- a round of the reference's settling -/
theorem pm_turn (h : ps_M M) (hx : ok x i) {fu : Nat} {n : Int32} (hn : ¬ 3 ≤ n) : match fn_s1 (a, b, c, d, e, f) with
    | some z => f_M_settle_l4 0 x (fu + 1) (rn_put M i a b c d e f) 1 n = f_M_settle_l4 0 x fu (rt M i z) 1 (n + 1)
    | none => ∃ z, f_M_settle_l4 0 x (fu + 1) (rn_put M i a b c d e f) 1 n = f_M_settle_l4 0 x fu (rt M i z) 0 (n + 1) := by
  have low_min : ∀ p q : Int64, ∀ g : Int64, fn_lt p g → fn_lt (fn_min p q) g := by
    intro p q g
    unfold fn_min
    split <;> rename_i z
    · rw [fn_lt_un] at z ⊢
      rw [fn_lt_un]
      omega
    · exact fun t => t
  have up_max : ∀ p q : Int64, ∀ g : Int64, fn_lt g p → fn_lt g (fn_max p q) := by
    intro p q g
    unfold fn_max
    split <;> rename_i z
    · rw [fn_lt_un] at z ⊢
      rw [fn_lt_un]
      omega
    · exact fun t => t
  have key : ∀ (e1 f1 : Int64), fn_sa (a, b, c, d, e, f) = (e1, f1) → (f < e → f1 < e1) → match fn_s1 (a, b, c, d, e, f) with
      | some z => f_M_settle_l4 0 x (fu + 1) (rn_put M i a b c d e f) 1 n = f_M_settle_l4 0 x fu (rt M i z) 1 (n + 1)
      | none => ∃ z, f_M_settle_l4 0 x (fu + 1) (rn_put M i a b c d e f) 1 n = f_M_settle_l4 0 x fu (rt M i z) 0 (n + 1) := by
    intro e1 f1 ha mono
    obtain ⟨c1, hc1⟩ : ∃ c1, c1 = fn_max c a := ⟨_, rfl⟩
    obtain ⟨d1, hd1⟩ : ∃ d1, d1 = fn_min d (a ||| b) := ⟨_, rfl⟩
    have hsg : f_M_toSigned (rn_put M i a b c1 d1 e f) 0 x = some (rn_put M i a b c1 d1 e1 f1, if fn_lt d1 c1 ∨ f1 < e1 then 0 else 1) := by
      rw [pm_toSigned h hx]
      unfold fn_sa fn_sl1 fn_sg1 at ha
      dsimp only at ha
      rw [← hc1, ← hd1] at ha
      by_cases g : c1 ^^^ d1 < 0
      · rw [if_pos g] at ha ⊢
        cases ha
        rfl
      · rw [if_neg g] at ha ⊢
        cases ha
        rfl
    have fin : ∀ (c2 d2 : Int64), fn_sb (a, b, c, d, e, f) = (c2, d2) → (fn_lt d1 c1 → fn_lt d2 c2) → f_M_toUnsigned (rn_put M i a b c1 d1 e1 f1) 0 x = some (rn_put M i a b c2 d2 e1 f1, if fn_lt d2 c2 ∨ f1 < e1 then 0 else 1) → match fn_s1 (a, b, c, d, e, f) with
        | some z => f_M_settle_l4 0 x (fu + 1) (rn_put M i a b c d e f) 1 n = f_M_settle_l4 0 x fu (rt M i z) 1 (n + 1)
        | none => ∃ z, f_M_settle_l4 0 x (fu + 1) (rn_put M i a b c d e f) 1 n = f_M_settle_l4 0 x fu (rt M i z) 0 (n + 1) := by
      intro c2 d2 hb mono2 hun
      rw [f_M_settle_l4, if_neg hn, if_neg (by decide), pm_byBits h hx, b2_some, ← hc1, ← hd1]
      by_cases g : fn_lt d2 c2 ∨ f1 < e1
      · rw [fn_s1_n1 ha hb g]
        dsimp only
        by_cases g1 : fn_lt d1 c1 ∨ f < e
        · rw [if_pos g1, if_pos rfl]
          exact ⟨(a, b, c1, d1, e, f), rfl⟩
        · rw [if_neg g1, if_neg (by decide), hsg, b2_some]
          by_cases g2 : fn_lt d1 c1 ∨ f1 < e1
          · rw [if_pos g2, if_pos rfl]
            exact ⟨(a, b, c1, d1, e1, f1), rfl⟩
          · rw [if_neg g2, if_neg (by decide), hun, b2_some, if_pos g, if_pos rfl]
            exact ⟨(a, b, c2, d2, e1, f1), rfl⟩
      · have g1 : ¬ (fn_lt d1 c1 ∨ f < e) := fun z => g (z.elim (fun q => Or.inl (mono2 q)) (fun q => Or.inr (mono q)))
        have g2 : ¬ (fn_lt d1 c1 ∨ f1 < e1) := fun z => g (z.elim (fun q => Or.inl (mono2 q)) Or.inr)
        rw [if_neg g1, if_neg (by decide), hsg, b2_some, if_neg g2, if_neg (by decide), hun, b2_some, if_neg g, if_neg (by decide), pm_toBits h hx]
        by_cases g3 : ((a ^^^ c2) &&& (b ^^^ -1) &&& (fn_down (c2 ^^^ d2) ^^^ -1)) = 0
        · rw [fn_s1_s ha hb g g3, if_pos g3, b2_some, if_neg g, if_neg (by decide)]
          rfl
        · rw [fn_s1_n2 ha hb g g3, if_neg g3, b2_some, if_pos rfl]
          exact ⟨(a, b, c2, d2, e1, f1), rfl⟩
    have hb0 : fn_sb (a, b, c, d, e, f) = if e1 ^^^ f1 < 0 then (c1, d1) else (fn_max c1 e1, fn_min d1 f1) := by
      unfold fn_sb fn_sl1 fn_sg1
      rw [ha, hc1, hd1]
    by_cases g : e1 ^^^ f1 < 0
    · rw [if_pos g] at hb0
      exact fin _ _ hb0 (fun z => z) (by rw [pm_toUnsigned h hx, if_pos g])
    · rw [if_neg g] at hb0
      exact fin _ _ hb0 (fun z => up_max _ _ _ (low_min _ _ _ z)) (by rw [pm_toUnsigned h hx, if_neg g])
  by_cases g : fn_sl1 (a, b, c, d, e, f) ^^^ fn_sg1 (a, b, c, d, e, f) < 0
  · exact key _ _ (fn_sa_pos g) (fun z => z)
  · refine key _ _ (fn_sa_neg g) ?_
    intro z
    unfold fn_smax fn_smin
    dsimp only
    rw [i64_lt] at z
    split <;> split <;> rename_i q1 q2 <;> rw [i64_lt] at q1 q2 <;> rw [i64_lt] <;> omega
theorem pm_stop {fu : Nat} {n : Int32} : f_M_settle_l4 0 x (fu + 1) M 0 n = some (M, 0) := by
  rw [f_M_settle_l4]
  by_cases g : 3 ≤ n
  · rw [if_pos g]
  · rw [if_neg g, if_pos rfl]
theorem pm_settle_some (h : ps_M M) (hx : ok x i) {z : fn_N} (hz : fn_it 3 (rg M i) = some z) : f_M_settle M 0 x = some (rt M i z, 1) := by
  unfold fn_it fn_it fn_it fn_it at hz
  obtain ⟨x2, h2, h3⟩ := Option.bind_eq_some_iff.mp hz
  obtain ⟨x1, h1, h2⟩ := Option.bind_eq_some_iff.mp h2
  obtain ⟨x0, h0, h1⟩ := Option.bind_eq_some_iff.mp h1
  cases h0
  obtain ⟨⟨a0, b0, c0, d0, e0, f0⟩, hr⟩ : ∃ n : fn_N, rg M i = n := ⟨_, rfl⟩
  rw [hr] at h1
  have hM : M = rn_put M i a0 b0 c0 d0 e0 f0 := by
    have q := rt_id (M := M) (i := i)
    rw [hr] at q
    exact q.symm
  obtain ⟨a1, b1, c1, d1, e1, f1⟩ := x1
  obtain ⟨a2, b2, c2, d2, e2, f2⟩ := x2
  unfold f_M_settle
  have t0 := pm_turn (M := M) (fu := 4294967295) (n := 0) (a := a0) (b := b0) (c := c0) (d := d0) (e := e0) (f := f0) h hx (by decide)
  have t1 := pm_turn (M := M) (fu := 4294967294) (n := 0 + 1) (a := a1) (b := b1) (c := c1) (d := d1) (e := e1) (f := f1) h hx (by decide)
  have t2 := pm_turn (M := M) (fu := 4294967293) (n := 0 + 1 + 1) (a := a2) (b := b2) (c := c2) (d := d2) (e := e2) (f := f2) h hx (by decide)
  rw [h1] at t0
  rw [h2] at t1
  rw [h3] at t2
  dsimp only at t0 t1 t2
  rw [← hM] at t0
  rw [show fuel = 4294967295 + 1 from rfl, t0]
  refine t1.trans (t2.trans ?_)
  rw [show (4294967293 : Nat) = 4294967292 + 1 from rfl, f_M_settle_l4, if_pos (by decide)]
theorem pm_settle_none (h : ps_M M) (hx : ok x i) (hz : fn_it 3 (rg M i) = none) : ∃ z, f_M_settle M 0 x = some (rt M i z, 0) := by
  obtain ⟨⟨a0, b0, c0, d0, e0, f0⟩, hr⟩ : ∃ n : fn_N, rg M i = n := ⟨_, rfl⟩
  rw [hr] at hz
  have hM : M = rn_put M i a0 b0 c0 d0 e0 f0 := by
    have q := rt_id (M := M) (i := i)
    rw [hr] at q
    exact q.symm
  unfold f_M_settle
  have t0 := pm_turn (M := M) (fu := 4294967295) (n := 0) (a := a0) (b := b0) (c := c0) (d := d0) (e := e0) (f := f0) h hx (by decide)
  rw [← hM] at t0
  rw [show fuel = 4294967295 + 1 from rfl]
  cases h1 : fn_s1 (a0, b0, c0, d0, e0, f0) with
  | none =>
    rw [h1] at t0
    obtain ⟨z, q⟩ := t0
    rw [q, show (4294967295 : Nat) = 4294967294 + 1 from rfl, pm_stop]
    exact ⟨z, rfl⟩
  | some x1 =>
    rw [h1] at t0
    obtain ⟨a1, b1, c1, d1, e1, f1⟩ := x1
    dsimp only at t0
    rw [t0]
    have t1 := pm_turn (M := M) (fu := 4294967294) (n := 0 + 1) (a := a1) (b := b1) (c := c1) (d := d1) (e := e1) (f := f1) h hx (by decide)
    cases h2 : fn_s1 (a1, b1, c1, d1, e1, f1) with
    | none =>
      rw [h2] at t1
      obtain ⟨z, q⟩ := t1
      refine ⟨z, q.trans ?_⟩
      rw [show (4294967294 : Nat) = 4294967293 + 1 from rfl, pm_stop]
    | some x2 =>
      rw [h2] at t1
      obtain ⟨a2, b2, c2, d2, e2, f2⟩ := x2
      dsimp only at t1
      have t2 := pm_turn (M := M) (fu := 4294967293) (n := 0 + 1 + 1) (a := a2) (b := b2) (c := c2) (d := d2) (e := e2) (f := f2) h hx (by decide)
      cases h3 : fn_s1 (a2, b2, c2, d2, e2, f2) with
      | none =>
        rw [h3] at t2
        obtain ⟨z, q⟩ := t2
        refine ⟨z, t1.trans (q.trans ?_)⟩
        rw [show (4294967293 : Nat) = 4294967292 + 1 from rfl, pm_stop]
      | some x3 =>
        exfalso
        have q : fn_it 3 (a0, b0, c0, d0, e0, f0) = some x3 := fn_it_s (fn_it_s (fn_it_s (k := 0) rfl h1) h2) h3
        rw [hz] at q
        cases q
theorem pm_zeros_l (h : ps_M M) (hx : ok x i) : ∀ (k n fu : Nat), n + k = 64 → k < fu → un ((rg M i).1 ||| (rg M i).2.1) % 2 ^ n = 0 → f_M_zeros_l2 0 x fu M (nI n) = some (M, fn_lz (rg M i).1 (rg M i).2.1) := by
  intro k
  induction k with
  | zero =>
    intro n fu hn hf hz
    obtain ⟨f2, rfl⟩ : ∃ f2, fu = f2 + 1 := ⟨fu - 1, by omega⟩
    obtain rfl : n = 64 := by omega
    rw [f_M_zeros_l2, if_pos (by decide)]
    unfold fn_lz
    rw [lz_of (t := 64) (by decide) hz (by omega)]
  | succ k ih =>
    intro n fu hn hf hz
    obtain ⟨f2, rfl⟩ : ∃ f2, fu = f2 + 1 := ⟨fu - 1, by omega⟩
    have hn2 : n < 64 := by omega
    have lt : ∀ n, n < 64 → ¬ (64 : Int32) ≤ nI n := by decide
    rw [f_M_zeros_l2, if_neg (lt n hn2)]
    simp only [bd_some, b2_some, st_eq, rs_52 h, rs_53 h, rs_54 h, rs_55 h, rs_56 h, rs_57 h, rz_16_6 h, rz_16_7 h, rz_16_8 h, rz_16_9 h, rz_16_10 h, rz_16_11 h, gd, rn_R, rn_Z, pR_L, pZ_L, hx.2.1, ok_g hx, if_true]
    show (if jlshr ((rg M i).1 ||| (rg M i).2.1) (nI n) &&& 1 = 0 then f_M_zeros_l2 0 x f2 M (nI n + 1) else some (M, nI n)) = _
    cases g : bt ((rg M i).1 ||| (rg M i).2.1) n with
    | false =>
      rw [if_pos (and1z.mpr (by rw [bt_shr0 hn2]; exact g)), nI_s]
      exact ih (n + 1) f2 (by omega) (by omega) (mod_succ.mpr ⟨hz, g⟩)
    | true =>
      rw [if_neg (fun q => by rw [and1z, bt_shr0 hn2, g] at q; cases q)]
      unfold fn_lz
      rw [lz_of (t := n) (by omega) hz (fun _ => g)]
theorem pm_zeros (h : ps_M M) (hx : ok x i) : f_M_zeros M 0 x = some (M, fn_lz (rg M i).1 (rg M i).2.1) := by
  unfold f_M_zeros
  exact pm_zeros_l h hx 64 0 fuel (by decide) (by unfold fuel; omega) (by rw [Nat.pow_zero, Nat.mod_one])
end RM
