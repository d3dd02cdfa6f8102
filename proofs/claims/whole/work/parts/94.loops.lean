/-! PURE: the reference's loops over bits: places, zeros, quotient, swapping. -/
theorem nI_s (n : Nat) : nI n + 1 = nI (n + 1) := by
  unfold nI
  rw [Int32.ofNat_add]
  rfl
theorem i32_cancel {a b : Int32} (h : a + 1 = b + 1) : a = b := by
  have := congrArg (fun z => z - 1) h
  simpa [Int32.add_sub_cancel] using this
theorem nI_p {n : Nat} {y : Int32} (h : y + 1 = nI (n + 1)) : y = nI n := by
  rw [← nI_s] at h
  exact i32_cancel h
theorem nI_m {n : Nat} : nI n + -1 + 1 = nI n := by
  rw [Int32.add_assoc, show (-1 + 1 : Int32) = 0 from by decide, Int32.add_zero]
theorem nI_e {y : Int32} (h : y + 1 = nI 0) : y < 0 := by
  have e : y = -1 := by
    apply i32_cancel
    rw [h]
    decide
  rw [e]
  decide
theorem nI_nn {n : Nat} (h : n < 64) : ¬ nI n < 0 := by
  have : ∀ n, n < 64 → ¬ nI n < 0 := by decide
  exact this n h
theorem bt_1 {i : Nat} : bt 1 i = decide (i = 0) := by
  unfold bt
  rw [show (1 : Int64).toBitVec = BitVec.twoPow 64 0 from rfl, BitVec.getLsbD_twoPow]
  by_cases h : i = 0 <;> simp [h]
  omega
theorem and1 {x : Int64} : (x &&& 1) = 1 ↔ bt x 0 = true := by
  constructor
  · intro h
    have := congrArg (fun z => bt z 0) h
    simp only [bt_and, bt_1] at this
    simpa using this
  · intro h
    apply bt_ext
    intro i hi
    rw [bt_and, bt_1]
    by_cases e : i = 0
    · subst e; simp [h]
    · simp [e]
theorem and1z {x : Int64} : (x &&& 1) = 0 ↔ bt x 0 = false := by
  constructor
  · intro h
    have := congrArg (fun z => bt z 0) h
    simp only [bt_and, bt_1, bt_0] at this
    simpa using this
  · intro h
    apply bt_ext
    intro i hi
    rw [bt_and, bt_1, bt_0]
    by_cases e : i = 0
    · subst e; simp [h]
    · simp [e]
theorem bt_shr0 {x : Int64} {n : Nat} (h : n < 64) : bt (jlshr x (nI n)) 0 = bt x n := by
  rw [bt_shr h (by decide), if_pos (by omega)]
  rfl
theorem bt_one {n i : Nat} (h : n < 64) : bt (jlshl 1 (nI n)) i = decide (i = n) := by
  rw [bt_shl h, bt_1]
  by_cases e : i = n
  · subst e; simp [h]
  · by_cases g : i < n
    · simp [g, e]
    · have : ¬ i - n = 0 := by omega
      simp [this, e]
theorem bt_zero {x : Int64} : x = 0 ↔ ∀ i, i < 64 → bt x i = false := by
  constructor
  · intro h i _
    rw [h, bt_0]
  · intro h
    apply bt_ext
    intro i hi
    rw [h i hi, bt_0]
/-- a bit of d at i or above -/
def sm (d : Int64) (i : Nat) : Bool := (List.range 64).any (fun l => decide (i ≤ l) && bt d l)
theorem sm_iff {d : Int64} {i : Nat} : sm d i = true ↔ ∃ l, l < 64 ∧ i ≤ l ∧ bt d l = true := by
  unfold sm
  rw [List.any_eq_true]
  constructor
  · rintro ⟨l, h1, h2⟩
    rw [Bool.and_eq_true, decide_eq_true_eq] at h2
    exact ⟨l, List.mem_range.mp h1, h2.1, h2.2⟩
  · rintro ⟨l, h1, h2, h3⟩
    exact ⟨l, List.mem_range.mpr h1, by rw [Bool.and_eq_true, decide_eq_true_eq]; exact ⟨h2, h3⟩⟩
theorem sm_d1 {x y : Int64} {n : Nat} (hn : n < 64) (h : ∀ i, bt y i = true ↔ ∃ l, i ≤ l ∧ l < i + n ∧ bt x l = true) : ∀ i, bt (fn_d1 y (nI n)) i = true ↔ ∃ l, i ≤ l ∧ l < i + (n + n) ∧ bt x l = true := by
  intro i
  have e : bt (fn_d1 y (nI n)) i = (bt y i || bt y (n + i)) := by
    show bt (y ||| jlushr y (nI n)) i = _
    rw [bt_or, bt_ush hn]
  rw [e, Bool.or_eq_true, h, h]
  constructor
  · rintro (⟨l, a, b, c⟩ | ⟨l, a, b, c⟩)
    · exact ⟨l, a, by omega, c⟩
    · exact ⟨l, by omega, by omega, c⟩
  · rintro ⟨l, a, b, c⟩
    by_cases g : l < i + n
    · exact Or.inl ⟨l, a, g, c⟩
    · exact Or.inr ⟨l, by omega, by omega, c⟩
theorem bt_down {x : Int64} {i : Nat} : bt (fn_down x) i = sm x i := by
  have h0 : ∀ i, bt x i = true ↔ ∃ l, i ≤ l ∧ l < i + 1 ∧ bt x l = true := by
    intro i
    constructor
    · intro h; exact ⟨i, by omega, by omega, h⟩
    · rintro ⟨l, a, b, c⟩
      have : l = i := by omega
      rw [← this]; exact c
  have h6 := sm_d1 (n := 32) (by decide) (sm_d1 (n := 16) (by decide) (sm_d1 (n := 8) (by decide) (sm_d1 (n := 4) (by decide) (sm_d1 (n := 2) (by decide) (sm_d1 (n := 1) (by decide) h0)))))
  have h7 : bt (fn_down x) i = true ↔ ∃ l, i ≤ l ∧ l < i + 64 ∧ bt x l = true := h6 i
  apply Bool.eq_iff_iff.mpr
  rw [h7, sm_iff]
  constructor
  · rintro ⟨l, a, b, c⟩
    by_cases g : l < 64
    · exact ⟨l, g, a, c⟩
    · rw [bt_ge (by omega)] at c
      cases c
  · rintro ⟨l, a, b, c⟩
    exact ⟨l, b, by omega, c⟩
theorem pm_places_l {d : Int64} : ∀ (n fu : Nat) (k : Int64) (y : Int32), n ≤ 64 → n < fu → y + 1 = nI n → (∀ i, i < 64 → bt k i = (decide (n ≤ i) && sm d i)) → f_M_places_l12 fu d k y = some (fn_down d) := by
  intro n
  induction n with
  | zero =>
    intro fu k y _ hf hy hk
    obtain ⟨f2, rfl⟩ : ∃ f2, fu = f2 + 1 := ⟨fu - 1, by omega⟩
    rw [f_M_places_l12, if_pos (nI_e hy)]
    congr 1
    apply bt_ext
    intro i hi
    rw [hk i hi, bt_down]
    simp
  | succ n ih =>
    intro fu k y hn hf hy hk
    obtain ⟨f2, rfl⟩ : ∃ f2, fu = f2 + 1 := ⟨fu - 1, by omega⟩
    have ey := nI_p hy
    subst ey
    have hn2 : n < 64 := by omega
    rw [f_M_places_l12, if_neg (nI_nn hn2)]
    have kz : k = 0 ↔ sm d (n + 1) = false := by
      rw [bt_zero]
      constructor
      · intro h
        by_cases g : n + 1 < 64
        · have := h (n + 1) g
          rw [hk (n + 1) g] at this
          simpa using this
        · cases e : sm d (n + 1) with
          | false => rfl
          | true =>
            obtain ⟨l, a, b, c⟩ := sm_iff.mp e
            omega
      · intro h i hi
        rw [hk i hi]
        by_cases g : n + 1 ≤ i
        · have : sm d i = false := by
            cases e : sm d i with
            | false => rfl
            | true =>
              obtain ⟨l, a, b, c⟩ := sm_iff.mp e
              have : sm d (n + 1) = true := sm_iff.mpr ⟨l, a, by omega, c⟩
              rw [h] at this
              cases this
          simp [this]
        · simp [g]
    have smn : sm d n = (bt d n || sm d (n + 1)) := by
      apply Bool.eq_iff_iff.mpr
      rw [Bool.or_eq_true, sm_iff, sm_iff]
      constructor
      · rintro ⟨l, a, b, c⟩
        by_cases g : l = n
        · exact Or.inl (by rw [← g]; exact c)
        · exact Or.inr ⟨l, a, by omega, c⟩
      · rintro (h | ⟨l, a, b, c⟩)
        · exact ⟨n, hn2, by omega, h⟩
        · exact ⟨l, a, by omega, c⟩
    have put : sm d n = true → ∀ i, i < 64 → bt (k ||| jlshl 1 (nI n)) i = (decide (n ≤ i) && sm d i) := by
      intro hs i hi
      rw [bt_or, hk i hi, bt_one hn2]
      by_cases e : i = n
      · subst e; simp [hs]
      · by_cases g : n + 1 ≤ i
        · have g2 : n ≤ i := by omega
          simp [g, g2, e]
        · have g2 : ¬ n ≤ i := by omega
          simp [g, g2, e]
    have keep : sm d n = false → ∀ i, i < 64 → bt k i = (decide (n ≤ i) && sm d i) := by
      intro hs i hi
      rw [hk i hi]
      by_cases e : i = n
      · subst e; simp [hs]
      · by_cases g : n + 1 ≤ i
        · have g2 : n ≤ i := by omega
          simp [g, g2]
        · have g2 : ¬ n ≤ i := by omega
          simp [g, g2]
    by_cases g : k = 0
    · rw [if_pos g]
      have z := kz.mp g
      by_cases g2 : bt d n = true
      · rw [if_pos (and1.mpr (by rw [bt_shr0 hn2]; exact g2)), st_eq]
        exact ih f2 _ _ (by omega) (by omega) nI_m (put (by rw [smn, g2]; rfl))
      · rw [if_neg (fun q => g2 (by rw [← bt_shr0 hn2]; exact and1.mp q))]
        have g3 : bt d n = false := by cases e : bt d n with | false => rfl | true => exact absurd e g2
        exact ih f2 _ _ (by omega) (by omega) nI_m (keep (by rw [smn, g3, z]; rfl))
    · rw [if_neg g, st_eq]
      have z : sm d (n + 1) = true := by
        cases e : sm d (n + 1) with
        | false => exact absurd (kz.mpr e) g
        | true => rfl
      exact ih f2 _ _ (by omega) (by omega) nI_m (put (by rw [smn, z, Bool.or_true]))
theorem pm_places {a b : Int64} : f_M_places a b = some (fn_down (a ^^^ b)) := by
  unfold f_M_places
  rw [st_eq]
  refine pm_places_l 64 fuel 0 63 (by decide) (by unfold fuel; omega) (by decide) ?_
  intro i hi
  rw [bt_0]
  simp
  omega
/-! quotients -/
theorem un_bt (x : Int64) (i : Nat) : bt x i = (un x).testBit i := rfl
theorem un_and1 {x : Int64} {n : Nat} (h : n < 64) : un (jlshr x (nI n) &&& 1) = un x / 2 ^ n % 2 := by
  have e : bt x n = decide (un x / 2 ^ n % 2 = 1) := by rw [un_bt, Nat.testBit_eq_decide_div_mod_eq]
  by_cases g : bt x n = true
  · rw [and1.mpr (by rw [bt_shr0 h]; exact g)]
    rw [g] at e
    have := of_decide_eq_true e.symm
    rw [this]
    rfl
  · have g2 : bt x n = false := by cases z : bt x n with | false => rfl | true => exact absurd z g
    rw [and1z.mpr (by rw [bt_shr0 h]; exact g2)]
    rw [g2] at e
    have := of_decide_eq_false e.symm
    show 0 = _
    omega
theorem un_shl1 {x : Int64} : un (jlshl x 1) = un x * 2 % 18446744073709551616 := by
  unfold jlshl un
  rw [Int64.toBitVec_shiftLeft, show ((1 : Int32).toInt64 &&& 63).toBitVec.smod 64 = BitVec.ofNat 64 1 from by decide, BitVec.shiftLeft_eq', BitVec.toNat_shiftLeft, show (BitVec.ofNat 64 1).toNat = 1 from rfl, Nat.shiftLeft_eq]
theorem un_or {x y : Int64} : un (x ||| y) = un x ||| un y := by
  unfold un
  rw [Int64.toBitVec_or, BitVec.toNat_or]
theorem nat_or1 {n b : Nat} (h : n % 2 = 0) (hb : b < 2) : n ||| b = n + b := by
  obtain ⟨m, rfl⟩ : ∃ m, n = 2 * m := ⟨n / 2, by omega⟩
  have : 2 ^ 1 * m ||| b = 2 ^ 1 * m + b := (Nat.two_pow_add_eq_or_of_lt (i := 1) hb m).symm
  exact this
theorem un_sub {x y : Int64} : un (x - y) = (un x + (18446744073709551616 - un y)) % 18446744073709551616 := by
  unfold un
  rw [Int64.toBitVec_sub, BitVec.toNat_sub]
  rw [Nat.add_comm]
theorem pm_quo_l {x b : Int64} (hb : ¬ b = 0) : ∀ (n fu : Nat) (q r : Int64) (y : Int32), n ≤ 64 → n < fu → y + 1 = nI n → (∀ i, i < 64 → bt q i = (decide (n ≤ i) && (un x / un b).testBit i)) → un r = un x / 2 ^ n % un b → ∃ z, f_M_quotient_l10 x b fu q r y = some z ∧ un z = un x / un b := by
  have ub : 0 < un b := by
    rcases Nat.eq_zero_or_pos (un b) with z | z
    · exact absurd (un_inj (y := 0) z) hb
    · exact z
  have ubl := un_lt b
  intro n
  induction n with
  | zero =>
    intro fu q r y _ hf hy hq hr
    obtain ⟨f2, rfl⟩ : ∃ f2, fu = f2 + 1 := ⟨fu - 1, by omega⟩
    rw [f_M_quotient_l10, if_pos (nI_e hy)]
    refine ⟨q, rfl, ?_⟩
    apply Nat.eq_of_testBit_eq
    intro i
    by_cases hi : i < 64
    · have := hq i hi
      rw [un_bt] at this
      rw [this]
      simp
    · have l1 := un_lt q
      have l2 : un x / un b < 18446744073709551616 := Nat.lt_of_le_of_lt (Nat.div_le_self _ _) (un_lt x)
      have p : (18446744073709551616 : Nat) ≤ 2 ^ i := Nat.pow_le_pow_right (n := 2) (i := 64) (j := i) (by decide) (by omega)
      rw [Nat.testBit_lt_two_pow (by omega), Nat.testBit_lt_two_pow (by omega)]
  | succ n ih =>
    intro fu q r y hn hf hy hq hr
    obtain ⟨f2, rfl⟩ : ∃ f2, fu = f2 + 1 := ⟨fu - 1, by omega⟩
    have ey := nI_p hy
    subst ey
    have hn2 : n < 64 := by omega
    rw [f_M_quotient_l10, if_neg (nI_nn hn2)]
    obtain ⟨B, hB⟩ : ∃ B, B = un b := ⟨_, rfl⟩
    obtain ⟨X, hX⟩ : ∃ X, X = un x / 2 ^ (n + 1) := ⟨_, rfl⟩
    obtain ⟨c, hc⟩ : ∃ c, c = un x / 2 ^ n % 2 := ⟨_, rfl⟩
    have hX2 : un x / 2 ^ n = 2 * X + c := by
      rw [hX, hc, Nat.pow_succ, ← Nat.div_div_eq_div_mul]
      omega
    have hc2 : c < 2 := by omega
    rw [← hX, ← hB] at hr
    have hrl : un r < B := by rw [hr]; exact Nat.mod_lt _ (by omega)
    have hXr : X = B * (X / B) + un r := by rw [hr]; exact (Nat.div_add_mod X B).symm
    obtain ⟨R, hR⟩ : ∃ R, R = 2 * un r + c := ⟨_, rfl⟩
    have hbit : (un x / B).testBit n = decide (B ≤ R) := by
      rw [Nat.testBit_eq_decide_div_mod_eq, Nat.div_div_eq_div_mul, Nat.mul_comm, ← Nat.div_div_eq_div_mul, hX2]
      have e1 : 2 * X + c = B * (2 * (X / B)) + R := by
        have : B * (2 * (X / B)) = 2 * (B * (X / B)) := by rw [Nat.mul_left_comm]
        omega
      rw [e1, Nat.mul_add_div (by omega)]
      by_cases g : B ≤ R
      · have : R / B = 1 := by
          apply Nat.div_eq_of_lt_le <;> omega
        rw [this]
        simp [g]
      · have : R / B = 0 := Nat.div_eq_of_lt (by omega)
        rw [this]
        simp [g]
    have hmod : un x / 2 ^ n % B = if B ≤ R then R - B else R := by
      rw [hX2]
      have e1 : 2 * X + c = B * (2 * (X / B)) + R := by
        have : B * (2 * (X / B)) = 2 * (B * (X / B)) := by rw [Nat.mul_left_comm]
        omega
      rw [e1, Nat.mul_add_mod]
      by_cases g : B ≤ R
      · rw [if_pos g, Nat.mod_eq_sub_mod g, Nat.mod_eq_of_lt (by omega)]
      · rw [if_neg g, Nat.mod_eq_of_lt (by omega)]
    have hr2 : un (jlshl r 1 ||| jlshr x (nI n) &&& 1) = R % 18446744073709551616 := by
      rw [un_or, un_and1 hn2, un_shl1, nat_or1 (by omega) (by omega), ← hc]
      omega
    have go : B ≤ R → ∃ z, f_M_quotient_b56 (f_M_quotient_l10 x b f2) x b q (jlshl r 1 ||| jlshr x (nI n) &&& 1) (nI n) = some z ∧ un z = un x / un b := by
      intro g
      unfold f_M_quotient_b56 f_M_quotient_b61 f_M_quotient_b75
      rw [if_neg (by decide), st_eq, if_neg (by decide), st_eq]
      refine ih f2 _ _ _ (by omega) (by omega) nI_m ?_ ?_
      · intro i hi
        rw [bt_or, hq i hi, bt_one hn2, ← hB]
        by_cases e : i = n
        · subst e; simp [hbit, g]
        · by_cases g1 : n + 1 ≤ i
          · have g2 : n ≤ i := by omega
            simp [g1, g2, e]
          · have g2 : ¬ n ≤ i := by omega
            simp [g1, g2, e]
      · rw [un_sub, hr2, ← hB, hmod, if_pos g]
        omega
    have no : ¬ B ≤ R → ∃ z, f_M_quotient_b61 (f_M_quotient_l10 x b f2) x b q (jlshl r 1 ||| jlshr x (nI n) &&& 1) (nI n) 0 = some z ∧ un z = un x / un b := by
      intro g
      unfold f_M_quotient_b61 f_M_quotient_b75
      rw [if_pos rfl, st_eq, if_pos rfl, st_eq]
      refine ih f2 _ _ _ (by omega) (by omega) nI_m ?_ ?_
      · intro i hi
        rw [Int64.or_zero, hq i hi, ← hB]
        by_cases e : i = n
        · subst e; simp [hbit, g]
        · by_cases g1 : n + 1 ≤ i
          · have g2 : n ≤ i := by omega
            simp [g1, g2]
          · have g2 : ¬ n ≤ i := by omega
            simp [g1, g2]
      · rw [Int64.sub_zero, hr2, ← hB, hmod, if_neg g]
        omega
    unfold f_M_quotient_b27
    by_cases g : r < 0
    · rw [if_pos g, st_eq, if_neg (by decide)]
      have := neg_un.mp g
      exact go (by omega)
    · rw [if_neg g, st_eq, if_pos rfl, pm_below, bd_some]
      have g1 : ¬ 9223372036854775808 ≤ un r := fun z => g (neg_un.mpr z)
      by_cases g2 : fn_lt (jlshl r 1 ||| jlshr x (nI n) &&& 1) b
      · rw [if_pos g2, if_neg (by decide)]
        rw [fn_lt_un, hr2] at g2
        exact no (by omega)
      · rw [if_neg g2, if_pos rfl]
        rw [fn_lt_un, hr2] at g2
        exact go (by omega)
theorem un_quo {x b : Int64} (hb : ¬ b = 0) : un (fn_quo x b) = un x / un b := by
  have ub : 0 < un b := by
    rcases Nat.eq_zero_or_pos (un b) with z | z
    · exact absurd (un_inj (y := 0) z) hb
    · exact z
  have lx := un_lt x
  have lb := un_lt b
  have div : ∀ y : Int64, un y < 9223372036854775808 → un b < 9223372036854775808 → un (y / b) = un y / un b := by
    intro y hy hb2
    have e : (y / b).toInt = (un y / un b : Nat) := by
      rw [Int64.toInt_div]
      have e1 : y.toInt = (un y : Int) := by rw [int_un, if_pos hy]
      have e2 : b.toInt = (un b : Int) := by rw [int_un, if_pos hb2]
      rw [e1, e2, ← Int.ofNat_tdiv]
      have l : un y / un b ≤ un y := Nat.div_le_self _ _
      generalize un y / un b = Q at l ⊢
      rw [Int.bmod_def]
      show (if (Q : Int) % 18446744073709551616 < (18446744073709551616 + 1) / 2 then _ else _) = _
      omega
    have l : un y / un b ≤ un y := Nat.div_le_self _ _
    rw [int_un] at e
    have l2 := un_lt (y / b)
    generalize un y / un b = Q at e l ⊢
    split at e <;> omega
  unfold fn_quo
  rw [if_neg hb]
  by_cases h1 : b < 0
  · rw [if_pos h1]
    have h1b := neg_un.mp h1
    by_cases h2 : fn_lt x b
    · rw [if_pos h2]
      rw [fn_lt_un] at h2
      rw [Nat.div_eq_of_lt h2]
      rfl
    · rw [if_neg h2]
      rw [fn_lt_un] at h2
      have : un x / un b = 1 := by apply Nat.div_eq_of_lt_le <;> omega
      rw [this]
      rfl
  · rw [if_neg h1]
    have hb2 : un b < 9223372036854775808 := by
      have : ¬ 9223372036854775808 ≤ un b := fun z => h1 (neg_un.mpr z)
      omega
    by_cases h2 : x < 0
    · rw [if_pos h2]
      have hx2 := neg_un.mp h2
      have us : un (jlushr x 1) = un x / 2 := by
        unfold jlushr un
        rw [UInt64.toBitVec_toInt64, UInt64.toBitVec_shiftRight, BitVec.ushiftRight_eq', BitVec.toNat_umod]
        show (x.toUInt64.toBitVec >>> 1).toNat = _
        rw [BitVec.toNat_ushiftRight, Nat.shiftRight_eq_div_pow]
        rfl
      obtain ⟨B, hB⟩ : ∃ B, B = un b := ⟨_, rfl⟩
      obtain ⟨X, hXx⟩ : ∃ X, X = un x := ⟨_, rfl⟩
      obtain ⟨Q, hQ⟩ : ∃ Q, Q = X / 2 / B := ⟨_, rfl⟩
      have uh : un (fn_half x b) = 2 * Q := by
        show un (jlshl (jlushr x 1 / b) 1) = _
        have l : X / 2 / B ≤ X / 2 := Nat.div_le_self _ _
        rw [un_shl1, div _ (by rw [us]; omega) hb2, us, ← hB, ← hXx, ← hQ]
        omega
      have dm := Nat.div_add_mod (X / 2) B
      rw [← hQ] at dm
      have ml : X / 2 % B < B := Nat.mod_lt _ (by omega)
      have um : un (fn_half x b * b) = 2 * (B * Q) := by
        have : un (fn_half x b * b) = un (fn_half x b) * un b % 18446744073709551616 := by
          unfold un
          rw [Int64.toBitVec_mul, BitVec.toNat_mul]
        rw [this, uh, ← hB]
        have e : 2 * Q * B = 2 * (B * Q) := by rw [Nat.mul_assoc, Nat.mul_comm Q B]
        rw [e]
        omega
      have ul : un (x - fn_half x b * b) = X - 2 * (B * Q) := by
        rw [un_sub, um, ← hXx]
        omega
      have key : X = B * (2 * Q) + (X - 2 * (B * Q)) := by
        have : B * (2 * Q) = 2 * (B * Q) := by rw [Nat.mul_left_comm]
        omega
      by_cases h3 : fn_lt (x - fn_half x b * b) b
      · rw [if_pos h3, uh]
        rw [fn_lt_un, ul, ← hB] at h3
        rw [← hB, ← hXx, key, Nat.mul_add_div (by omega), Nat.div_eq_of_lt h3]
        omega
      · rw [if_neg h3]
        rw [fn_lt_un, ul, ← hB] at h3
        have ua : un (fn_half x b + 1) = 2 * Q + 1 := by
          have : un (fn_half x b + 1) = (un (fn_half x b) + 1) % 18446744073709551616 := by
            unfold un
            rw [Int64.toBitVec_add, BitVec.toNat_add]
            rfl
          rw [this, uh]
          have l : X / 2 / B ≤ X / 2 := Nat.div_le_self _ _
          omega
        rw [ua, ← hB, ← hXx, key, Nat.mul_add_div (by omega)]
        have : (X - 2 * (B * Q)) / B = 1 := by apply Nat.div_eq_of_lt_le <;> omega
        rw [this]
    · rw [if_neg h2]
      have : ¬ 9223372036854775808 ≤ un x := fun z => h2 (neg_un.mpr z)
      exact div x (by omega) hb2
theorem pm_quo {x b : Int64} (hb : ¬ b = 0) : f_M_quotient x b = some (fn_quo x b) := by
  unfold f_M_quotient
  obtain ⟨z, h1, h2⟩ := pm_quo_l (x := x) hb 64 fuel 0 0 63 (by decide) (by unfold fuel; omega) (by decide) (by intro i hi; rw [bt_0]; simp; omega) (by
    have : un x / 2 ^ 64 = 0 := Nat.div_eq_of_lt (un_lt x)
    rw [this, Nat.zero_mod]
    rfl)
  rw [h1, un_inj (h2.trans (un_quo hb).symm)]
