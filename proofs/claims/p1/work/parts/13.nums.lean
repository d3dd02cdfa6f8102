/-! Small rows on numbers. -/
theorem fg_sub10 {x : Int32} (h : ¬ x < 10) : 0 ≤ x - 10 := by
  have h0 : ¬ x < 0 := fun z => h (by simp only [Int32.lt_iff_toInt_lt] at z ⊢; exact Int.lt_trans z (by decide))
  obtain ⟨j, hj, rfl⟩ := nI_of h0
  have h1 : 10 ≤ j := by
    rcases Nat.lt_or_ge j 10 with q | q
    · exact absurd (nI_lt (b := 10) q (by decide)) h
    · exact q
  rw [show (10 : Int32) = nI 10 from rfl, pk_sub h1]
  exact nI_pos' (by omega)
theorem fg_8n {x : Int32} (h : ¬ x < 1) (h2 : ¬ 2000 < x) : 0 < 8 * x := by
  have h0 : ¬ x < 0 := fun z => h (by simp only [Int32.lt_iff_toInt_lt] at z ⊢; exact Int.lt_trans z (by decide))
  obtain ⟨j, hj, rfl⟩ := nI_of h0
  have h1 : 1 ≤ j := by
    rcases Nat.lt_or_ge j 1 with q | q
    · exact absurd (nI_lt (b := 1) q (by decide)) h
    · exact q
  have h3 : j ≤ 2000 := by
    rcases Nat.lt_or_ge 2000 j with q | q
    · exact absurd (nI_lt (a := 2000) q hj) h2
    · exact q
  rw [show (8 : Int32) = nI 8 from rfl, pk_mul]
  exact nI_lt (a := 0) (by omega) (by omega)
theorem fg_eq0 {x : Int32} (h : ¬ x < 0) (h2 : x ≤ 0) : x = 0 := by
  simp only [Int32.lt_iff_toInt_lt, Int32.le_iff_toInt_le, ← Int32.toInt_inj] at h h2 ⊢
  have : (0 : Int32).toInt = 0 := rfl
  omega
/-- the places of the context: 0, 8, .. 56 -/
def fg_at (x : Int32) : Prop := ¬ x < 0 ∧ ¬ 64 ≤ x ∧ x - x / 8 * 8 = 0
theorem fg_at_nI {x : Int32} (h : fg_at x) : ∃ j : Nat, j < 8 ∧ x = nI (8 * j) := by
  obtain ⟨h0, h1, h2⟩ := h
  obtain ⟨j, hj, rfl⟩ := nI_of h0
  have h3 : j < 64 := by
    rcases Nat.lt_or_ge j 64 with q | q
    · exact q
    · exact absurd (nI_le (a := 64) q hj) h1
  rw [show (8 : Int32) = nI 8 from rfl, pk_rem hj (by decide) (by decide)] at h2
  have h4 : j % 8 = 0 := (nI_eq (b := 0) (by omega) (by decide)).mp h2
  exact ⟨j / 8, by omega, by congr 1; omega⟩
/-- what the document says of a map's numbers -/
def fg_mapok (k y v n : Int32) : Prop := ((k = 0 ∧ y = 4) ∨ (k = 1 ∧ 1 ≤ y ∧ y ≤ 16)) ∧ 1 ≤ v ∧ v ≤ 64 ∧ 1 ≤ n ∧ n ≤ 64
theorem fg_rng {x : Int32} {a b : Nat} {A B : Int32} (hA : A = nI a) (hB : B = nI b) (hb : b < 2 ^ 31) (hab : a ≤ b) (h1 : A ≤ x) (h2 : x ≤ B) : ∃ j : Nat, a ≤ j ∧ j ≤ b ∧ x = nI j := by
  subst hA hB
  have ea := nI_toInt (n := a) (by omega)
  have eb := nI_toInt (n := b) hb
  have h0 : ¬ x < 0 := fun z => by
    simp only [Int32.lt_iff_toInt_lt, Int32.le_iff_toInt_le] at z h1
    have : (0 : Int32).toInt = 0 := rfl
    omega
  obtain ⟨j, hj, rfl⟩ := nI_of h0
  have ej := nI_toInt hj
  simp only [Int32.le_iff_toInt_le] at h1 h2
  exact ⟨j, by omega, by omega, rfl⟩
/-- what count answers of a fresh object -/
def fg_cnt (x : Int32) : Int32 := if x = 0 ∨ x = 1 ∨ x = 2 ∨ x = 3 ∨ x = 4 then 0 else -1
def fg_ctx (x : Int32) : Int32 := if ¬ x < 0 ∧ ¬ 64 ≤ x ∧ x - x / 8 * 8 = 0 then 1 else 0
theorem fg_ctx_no {x : Int32} (h : ¬ fg_at x) : 0 = fg_ctx x := by
  have h' : ¬ (¬ x < 0 ∧ ¬ 64 ≤ x ∧ x - x / 8 * 8 = 0) := h
  unfold fg_ctx
  rw [if_neg h']
theorem fg_ctx_yes {x : Int32} (h : fg_at x) : 1 = fg_ctx x := by
  have h' : ¬ x < 0 ∧ ¬ 64 ≤ x ∧ x - x / 8 * 8 = 0 := h
  unfold fg_ctx
  rw [if_pos h']
theorem fg_t0 : (0 : Int32).toInt = 0 := rfl
theorem fg_t1 : (1 : Int32).toInt = 1 := rfl
theorem fg_t2 : (2 : Int32).toInt = 2 := rfl
theorem fg_t4 : (4 : Int32).toInt = 4 := rfl
theorem fg_t16 : (16 : Int32).toInt = 16 := rfl
theorem fg_t64 : (64 : Int32).toInt = 64 := rfl
def fg_in01 (v a b : Int64) : Int32 := if a ≤ v ∧ v ≤ b then 1 else 0
theorem fg_in_no {v a b : Int64} (h : ¬ (a ≤ v ∧ v ≤ b)) : 0 = fg_in01 v a b := by unfold fg_in01; rw [if_neg h]
theorem fg_in_yes {v a b : Int64} (h : a ≤ v ∧ v ≤ b) : 1 = fg_in01 v a b := by unfold fg_in01; rw [if_pos h]
theorem fg_le64 {x y : Int32} : x.toInt64 ≤ y.toInt64 ↔ x ≤ y := by
  simp only [Int64.le_iff_toInt_le, Int32.le_iff_toInt_le, Int32.toInt_toInt64]
theorem fg_in32 {x A B : Int32} {a b : Int64} (ha : A.toInt64 = a) (hb : B.toInt64 = b) : fg_in01 x.toInt64 a b = if A ≤ x ∧ x ≤ B then 1 else 0 := by
  subst ha hb
  unfold fg_in01
  by_cases h : A ≤ x ∧ x ≤ B
  · rw [if_pos h, if_pos ⟨fg_le64.mpr h.1, fg_le64.mpr h.2⟩]
  · rw [if_neg h, if_neg (fun z => h ⟨fg_le64.mp z.1, fg_le64.mp z.2⟩)]
theorem fg_ifz {P : Prop} [Decidable P] {r : Int32} (e : r = if P then 1 else 0) (c : r = 0) : ¬ P := fun h => by
  rw [if_pos h] at e; rw [e] at c; exact absurd c (by decide)
theorem fg_ifnz {P : Prop} [Decidable P] {r : Int32} (e : r = if P then 1 else 0) (c : ¬ r = 0) : P := by
  by_cases h : P
  · exact h
  · rw [if_neg h] at e; exact absurd e c
theorem fg_at56 {x : Int32} (h : fg_at x) : ¬ 56 < x := by
  obtain ⟨j, hj, rfl⟩ := fg_at_nI h
  exact nI_nlt (b := 56) (a := 8 * j) |> fun f => by
    intro z
    have e1 := nI_toInt (n := 8 * j) (by omega)
    simp only [Int32.lt_iff_toInt_lt] at z
    have e2 : (56 : Int32).toInt = 56 := rfl
    omega
theorem fg_at_of {x : Int32} (h0 : ¬ x < 0) (h1 : ¬ 56 < x) (h2 : x - x / 8 * 8 = 0) : fg_at x := by
  refine ⟨h0, fun z => h1 ?_, h2⟩
  simp only [Int32.lt_iff_toInt_lt, Int32.le_iff_toInt_le] at z ⊢
  have e1 : (56 : Int32).toInt = 56 := rfl
  have e2 : (64 : Int32).toInt = 64 := rfl
  omega
theorem fg_cnt10 {x : Int32} (h : ¬ x < 10) : -1 = fg_cnt x := by
  unfold fg_cnt
  rw [if_neg]
  rintro (rfl | rfl | rfl | rfl | rfl) <;> exact h (by decide)
theorem fg_not1 {x : Int32} (h : ¬ (1 ≤ x ∧ x ≤ 2000)) (h1 : ¬ x < 1) (h2 : ¬ 2000 < x) : False := h ⟨Int32.not_lt.mp h1, Int32.not_lt.mp h2⟩
