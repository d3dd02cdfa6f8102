/-! PURE: the class's maps. -/
/-- a store: bytes of a key, of a value, entries, its arrays -/
def sS (M : me_M) (m k v e jk jv jh : Nat) (tbl : Prop) : Prop := (mI M 12 m 1 = nI k ∧ mI M 12 m 2 = nI v ∧ mI M 12 m 3 = nI e) ∧ (mR M 12 m 4 = some jk ∧ mR M 12 m 5 = some jv ∧ mR M 12 m 6 = some jh) ∧ ((tbl → mZ M 14 jk = e * k) ∧ mZ M 14 jv = e * v ∧ mZ M 15 jh = e) ∧ (mI M 12 m 0 = 0 ↔ ¬ tbl) ∧ (k ≤ 64 ∧ v ≤ 64 ∧ e ≤ 64) ∧ (¬ tbl → k = 4)
section HCS
variable {M : me_M} {m k v e jk jv jh j1 j3 A B i : Nat} {tbl : Prop}
theorem wA_s {g : Nat → Int32} {a b : Nat} : mI (wA M a b g) a b = g := if_pos ⟨rfl, rfl⟩
theorem wA_o {g : Nat → Int32} {a b c d : Nat} (h : ¬ (c = a ∧ d = b)) : mI (wA M a b g) c d = mI M c d := if_neg h
theorem wI_o {a b c d f : Nat} {x : Int32} (h : ¬ (c = a ∧ d = b)) : mI (wI M a b f x) c d = mI M c d := funext (fun y => wI_j h)
theorem wI_h {a b f : Nat} {x : Int32} : mI (wI M a b f x) a b = fup (mI M a b) f x := funext (fun y => by
  by_cases h : y = f
  · rw [h, pI_same]; exact (if_pos rfl).symm
  · rw [pI_place h]; exact (if_neg h).symm)
theorem wL_h {a b f : Nat} {x : Int64} : mL (wL M a b f x) a b = fup (mL M a b) f x := funext (fun y => by
  by_cases h : y = f
  · rw [h, pL_same]; exact (if_pos rfl).symm
  · rw [pL_place h]; exact (if_neg h).symm)
theorem wL_o {a b c d f : Nat} {x : Int64} (h : ¬ (c = a ∧ d = b)) : mL (wL M a b f x) c d = mL M c d := funext (fun y => if_neg (fun z => h ⟨z.1, z.2.1⟩))
theorem mul_lt {i y e k : Nat} (h1 : i < e) (h2 : y < k) : i * k + y < e * k := by
  have := Nat.mul_le_mul_right k (show i + 1 ≤ e from h1)
  rw [Nat.add_mul, Nat.one_mul] at this
  omega
theorem mul_64 {e k : Nat} (h1 : e ≤ 64) (h2 : k ≤ 64) : e * k ≤ 4096 := Nat.mul_le_mul h1 h2
/-- the key of an entry is that at A -/
def kyE (M : me_M) (jk k j1 A i : Nat) (y : Nat) : Prop := ∀ b, y ≤ b → b < k → mI M 14 jk (i * k + b) = mI M 14 j1 (A + b)
theorem ck_l (hS : sS M m k v e jk jv jh tbl) (ht : tbl) (hi : i < e) (hA : A + k ≤ mZ M 14 j1) (hZ : mZ M 14 j1 ≤ 100000) : ∀ (n y fu : Nat), y + n = k → n < fu → f_Store_isKey_l3 m (nI i) j1 (nI A) fu M (nI y) = some (M, ic (kyE M jk k j1 A i y) 1 0) := by
  obtain ⟨⟨s1, s2, s3⟩, ⟨s4, s5, s6⟩, ⟨s7, s8, s9⟩, s10, ⟨b1, b2, b3⟩, _⟩ := hS
  have b4 := mul_64 b3 b1
  have s7 := s7 ht
  intro n
  induction n with
  | zero =>
    intro y fu hy hf
    obtain ⟨fu, rfl⟩ : ∃ f, fu = f + 1 := ⟨fu - 1, by omega⟩
    rw [f_Store_isKey_l3, s1, if_pos ((nI_lei (by omega) (by omega)).mpr (by omega)), ic_t (show kyE M jk k j1 A i y from fun b h1 h2 => by omega)]
  | succ n ih =>
    intro y fu hy hf
    obtain ⟨fu, rfl⟩ : ∃ f, fu = f + 1 := ⟨fu - 1, by omega⟩
    have hl := mul_lt hi (show y < k by omega)
    rw [f_Store_isKey_l3, s1, if_neg (fun z => by have := (nI_lei (by omega) (by omega)).mp z; omega), s4, bd_some, mul_nI, nI_add, nI_add, nI_tn (by omega), nI_tn (by omega), s7, gd_pos (show ¬ (nI (i * k + y) < 0 ∨ e * k ≤ i * k + y) from fun z => z.elim (nI_ps (by omega)) (fun q => by omega)), gd_pos (show ¬ (nI (A + y) < 0 ∨ mZ M 14 j1 ≤ A + y) from fun z => z.elim (nI_ps (by omega)) (fun q => by omega)), nI_s]
    by_cases q : mI M 14 jk (i * k + y) = mI M 14 j1 (A + y)
    · rw [if_pos q, ih (y + 1) fu (by omega) (by omega)]
      have : kyE M jk k j1 A i (y + 1) ↔ kyE M jk k j1 A i y := by
        constructor
        · intro h b h1 h2
          by_cases eb : b = y
          · rw [eb]; exact q
          · exact h b (by omega) h2
        · intro h b h1 h2
          exact h b (by omega) h2
      rw [ic_c this]
    · rw [if_neg q, ic_f (fun h => q (h y (Nat.le_refl _) (by omega)))]
def rE (o : Option Nat) : Int32 := match o with
  | some i => nI i
  | none => -1
theorem ce_l (hS : sS M m k v e jk jv jh tbl) (ht : tbl) (hA : A + k ≤ mZ M 14 j1) (hZ : mZ M 14 j1 ≤ 100000) : ∀ (n y fu : Nat), y + n = e → n < fu → f_Store_entryOf_l59 m j1 (nI A) fu M (nI y) = some (M, rE (x_fst (fun i => ¬ mI M 15 jh i = 0 ∧ kyE M jk k j1 A i 0) n y)) := by
  have hS2 := hS
  obtain ⟨⟨s1, s2, s3⟩, ⟨s4, s5, s6⟩, ⟨s7, s8, s9⟩, s10, ⟨b1, b2, b3⟩, _⟩ := hS2
  intro n
  induction n with
  | zero =>
    intro y fu hy hf
    obtain ⟨fu, rfl⟩ : ∃ f, fu = f + 1 := ⟨fu - 1, by omega⟩
    rw [f_Store_entryOf_l59, s3, if_pos ((nI_lei (by omega) (by omega)).mpr (by omega))]
    rfl
  | succ n ih =>
    intro y fu hy hf
    obtain ⟨fu, rfl⟩ : ∃ f, fu = f + 1 := ⟨fu - 1, by omega⟩
    rw [f_Store_entryOf_l59, s3, if_neg (fun z => by have := (nI_lei (by omega) (by omega)).mp z; omega), s6, bd_some, nI_tn (by omega), s9, gd_pos (show ¬ (nI y < 0 ∨ e ≤ y) from fun z => z.elim (nI_ps (by omega)) (fun q => by omega)), nI_s, x_fst]
    by_cases q : mI M 15 jh y = 0
    · rw [if_pos q, ih (y + 1) fu (by omega) (by omega), ic_f (fun z => z.1 q)]
    · rw [if_neg q]
      unfold f_Store_isKey
      have hk : f_Store_isKey_l3 m (nI y) j1 (nI A) fuel M 0 = _ := ck_l hS ht (show y < e by omega) hA hZ k 0 fuel (by omega) (by unfold fuel; omega)
      rw [hk, b2_some]
      by_cases g : kyE M jk k j1 A y 0
      · rw [ic_t g, if_neg (by decide), ic_t ⟨q, g⟩]
        rfl
      · rw [ic_f g, if_pos rfl, ih (y + 1) fu (by omega) (by omega), ic_f (fun z => g z.2)]
theorem ca_l (hS : sS M m k v e jk jv jh tbl) (hA : A + 4 ≤ mZ M 14 j1) (hZ : mZ M 14 j1 ≤ 100000) : ∀ (i fu : Nat) (w : Int64), i ≤ 4 → i < fu → f_Store_entryOf_l12 m j1 (nI A) fu M w (nI i + -1) = (if yn (mI M 14 j1) A i w < (nI e).toInt64 then some (M, (yn (mI M 14 j1) A i w).toInt32) else some (M, -1)) := by
  obtain ⟨⟨s1, s2, s3⟩, _⟩ := hS
  intro i
  induction i with
  | zero =>
    intro fu w _ hf
    obtain ⟨fu, rfl⟩ : ∃ f, fu = f + 1 := ⟨fu - 1, by omega⟩
    rw [f_Store_entryOf_l12, if_pos (show nI 0 + -1 < 0 by decide), s3]
    rfl
  | succ i ih =>
    intro fu w hi hf
    obtain ⟨fu, rfl⟩ : ∃ f, fu = f + 1 := ⟨fu - 1, by omega⟩
    rw [nI_dec, f_Store_entryOf_l12, if_neg (nI_ps (by omega)), nI_add, nI_tn (by omega), gd_pos (show ¬ (nI (A + i) < 0 ∨ mZ M 14 j1 ≤ A + i) from fun z => z.elim (nI_ps (by omega)) (fun q => by omega)), st_eq, ih fu _ (by omega) (by omega)]
    rfl
theorem yn_sh {f : Nat → Int32} {A : Nat} (n : Nat) (w : Int64) : yn (fun b => f (A + b)) 0 n w = yn f A n w := yn_c n w (fun i _ => by rw [Nat.zero_add])
theorem yn_4 {f : Nat → Int32} {A : Nat} : 0 ≤ (yn f A 4 0).toInt ∧ (yn f A 4 0).toInt < 4294967296 := by
  have l : un (yn f A 4 0) < 4294967296 := yn_lt (f := f) (a := A) 4 0 0 (by decide) (by decide)
  rw [int_un, if_pos (by omega)]
  omega
/-- the entry with the key at A -/
theorem centry (hS : sS M m k v e jk jv jh tbl) (hA : A + k ≤ mZ M 14 j1) (hZ : mZ M 14 j1 ≤ 100000) {tb : Nat → Prop} {kb vb : Int32 → Int32} {en : Nat → Nat} {U : tyU} {nm : Nat} {H : Nat → Nat → Int32} {K V : Nat → Nat → Nat → Int32} (hm : mst nm tb kb vb en U H K V) (hn : m < nm) (ht : tb m ↔ tbl) (hk : (kb (nI m)).toNatClampNeg = k) (he : en m = e) (hH : ∀ i, i < e → H m i = mI M 15 jh i) (hK : ∀ i, i < e → ∀ b, b < k → K m i b = mI M 14 jk (i * k + b)) {key : Nat → Int32} (hkey : ∀ b, b < k → key b = mI M 14 j1 (A + b)) : f_Store_entryOf M m j1 (nI A) = some (M, rE (u_find tb kb en U m key)) := by
  have hS2 := hS
  obtain ⟨⟨s1, s2, s3⟩, ⟨s4, s5, s6⟩, ⟨s7, s8, s9⟩, s10, ⟨b1, b2, b3⟩, k4⟩ := hS2
  unfold f_Store_entryOf
  by_cases t : tbl
  · rw [if_neg (fun z => s10.mp z t)]
    rw [show (0 : Int32) = nI 0 from rfl, ce_l hS t hA hZ e 0 fuel (by omega) (by unfold fuel; omega), ← fnd_c hm hn (ht.mpr t), he, hk]
    congr 2
    refine congrArg rE (fst_c _ _ (fun i _ hi => ?_))
    have hi : i < e := by omega
    rw [hH i hi]
    constructor
    · rintro ⟨z1, z2⟩
      exact ⟨z1, fun b hb => by rw [hK i hi b hb, hkey b hb]; exact z2 b (by omega) hb⟩
    · rintro ⟨z1, z2⟩
      exact ⟨z1, fun b _ hb => by rw [← hK i hi b hb, ← hkey b hb]; exact z2 b hb⟩
  · have k4 := k4 t
    rw [if_pos (s10.mpr t), show (3 : Int32) = nI 4 + -1 from by decide, ca_l hS (by omega) hZ 4 fuel 0 (by omega) (by unfold fuel; omega)]
    unfold u_find
    rw [ic_f (fun z => t (ht.mp z)), he]
    have ey : yn key 0 4 0 = yn (mI M 14 j1) A 4 0 := by
      rw [← yn_sh 4 0]
      exact yn_c 4 0 (fun i hi => by rw [Nat.zero_add, Nat.zero_add]; exact hkey i (by omega))
    rw [ey]
    obtain ⟨y1, y2⟩ := yn_4 (f := mI M 14 j1) (A := A)
    generalize yn (mI M 14 j1) A 4 0 = w at y1 y2 ⊢
    by_cases q : w < (nI e).toInt64
    · rw [if_pos q, if_pos q]
      rw [i64_lt, nI_6 (by omega)] at q
      congr 2
      show w.toInt32 = nI w.toNatClampNeg
      have ew : (w.toNatClampNeg : Int) = w.toInt := by
        show ((w.toInt.toNat : Nat) : Int) = _
        omega
      exact Int32.toInt_inj.mp (by rw [i64_of (by omega) (by omega), nI_int (by omega), ew])
    · rw [if_neg q, if_neg q]
      rfl
theorem cfree_l (hS : sS M m k v e jk jv jh tbl) : ∀ (n y fu : Nat), y + n = e → n < fu → f_Store_leastFree_l2 m fu M (nI y) = some (M, rE (x_fst (fun i => mI M 15 jh i = 0) n y)) := by
  obtain ⟨⟨s1, s2, s3⟩, ⟨s4, s5, s6⟩, ⟨s7, s8, s9⟩, s10, ⟨b1, b2, b3⟩, _⟩ := hS
  intro n
  induction n with
  | zero =>
    intro y fu hy hf
    obtain ⟨fu, rfl⟩ : ∃ f, fu = f + 1 := ⟨fu - 1, by omega⟩
    rw [f_Store_leastFree_l2, s3, if_pos ((nI_lei (by omega) (by omega)).mpr (by omega))]
    rfl
  | succ n ih =>
    intro y fu hy hf
    obtain ⟨fu, rfl⟩ : ∃ f, fu = f + 1 := ⟨fu - 1, by omega⟩
    rw [f_Store_leastFree_l2, s3, if_neg (fun z => by have := (nI_lei (by omega) (by omega)).mp z; omega), s6, bd_some, nI_tn (by omega), s9, gd_pos (show ¬ (nI y < 0 ∨ e ≤ y) from fun z => z.elim (nI_ps (by omega)) (fun q => by omega)), nI_s, x_fst]
    by_cases q : mI M 15 jh y = 0
    · rw [if_pos q, ic_t q]
      rfl
    · rw [if_neg q, ic_f q, ih (y + 1) fu (by omega) (by omega)]
theorem rE_no : ∀ {i : Nat}, i < 64 → ¬ nI i = -1 := by
  intro i hi
  have t : ∀ i, i < 64 → ¬ nI i = -1 := by decide
  exact t i hi
theorem b61 (s2 : mI M 12 m 2 = nI v) (s5 : mR M 12 m 5 = some jv) (s8 : mZ M 14 jv = e * v) (b2 : v ≤ 64) (b3 : e ≤ 64) (hi : i < e) (hB : B + v ≤ mZ M 14 j3) (hZ : mZ M 14 j3 ≤ 100000) : f_Store_update_b61 m j3 (nI B) M (nI i) = some (wA M 14 jv (va_cpy (mI M 14 j3) (mI M 14 jv) B (i * v) v), 0) := by
  have hl := Nat.mul_le_mul_right v (show i + 1 ≤ e from hi)
  rw [Nat.add_mul, Nat.one_mul] at hl
  have b4 := mul_64 b3 b2
  unfold f_Store_update_b61
  rw [if_neg (rE_no (by omega)), s5, bd_some, s2, mul_nI, nI_tn (by omega), nI_tn (by omega), nI_tn (by omega), gd_pos (show ¬ nI B < 0 ∧ ¬ nI (i * v) < 0 ∧ ¬ nI v < 0 ∧ B + v ≤ mZ M 14 j3 ∧ i * v + v ≤ mZ M 14 jv from ⟨nI_ps (by omega), nI_ps (by omega), nI_ps (by omega), hB, by omega⟩), st_eq]
/-- memory behind a new key -/
def cu_k (M : me_M) (jk jh k j1 A i : Nat) : me_M := wA (wI M 15 jh i 1) 14 jk (va_cpy (mI M 14 j1) (mI M 14 jk) A (i * k) k)
def cu_v (M : me_M) (jv v j3 B i : Nat) : me_M := wA M 14 jv (va_cpy (mI M 14 j3) (mI M 14 jv) B (i * v) v)
def cu_n (M : me_M) (jk jv jh k v j1 j3 A B : Nat) : Option Nat → Option (me_M × Int32)
  | some i => some (cu_v (cu_k M jk jh k j1 A i) jv v j3 B i, 0)
  | none => some (M, -1)
noncomputable def cu_r (M : me_M) (jk jv jh k v e j1 j3 A B : Nat) (tbl : Prop) : Option Nat → Option (me_M × Int32)
  | some i => some (cu_v M jv v j3 B i, 0)
  | none => ic tbl (cu_n M jk jv jh k v j1 j3 A B (x_fst (fun i => mI M 15 jh i = 0) e 0)) (some (M, -1))
def cd_r (M : me_M) (jh : Nat) : Option Nat → Option (me_M × Int32)
  | some i => some (wI M 15 jh i 0, 0)
  | none => some (M, -1)
theorem cupd (hS : sS M m k v e jk jv jh tbl) (hA : A + k ≤ mZ M 14 j1) (hZ : mZ M 14 j1 ≤ 100000) (hB : B + v ≤ mZ M 14 j3) (hZ3 : mZ M 14 j3 ≤ 100000) {o : Option Nat} (ho : f_Store_entryOf M m j1 (nI A) = some (M, rE o)) (hoe : ∀ i, o = some i → i < e) : f_Store_update M m j1 (nI A) j3 (nI B) = cu_r M jk jv jh k v e j1 j3 A B tbl o := by
  have hS2 := hS
  obtain ⟨⟨s1, s2, s3⟩, ⟨s4, s5, s6⟩, ⟨s7, s8, s9⟩, s10, ⟨b1, b2, b3⟩, k4⟩ := hS2
  unfold f_Store_update
  rw [ho, b2_some]
  cases o with
  | some i =>
    have hi := hoe i rfl
    show (if nI i = -1 then _ else f_Store_update_b61 m j3 (nI B) M (nI i)) = _
    rw [if_neg (rE_no (by omega)), b61 s2 s5 s8 b2 b3 hi hB hZ3]
    rfl
  | none =>
    show (if (-1 : Int32) = -1 then _ else _) = ic tbl (cu_n M jk jv jh k v j1 j3 A B (x_fst (fun i => mI M 15 jh i = 0) e 0)) (some (M, -1))
    rw [if_pos rfl]
    by_cases t : tbl
    · rw [if_neg (fun z => s10.mp z t), ic_t t]
      unfold f_Store_leastFree
      have hl : f_Store_leastFree_l2 m fuel M 0 = _ := cfree_l hS e 0 fuel (by omega) (by unfold fuel; omega)
      rw [hl, b2_some]
      cases q : x_fst (fun i => mI M 15 jh i = 0) e 0 with
      | none =>
        show (if (-1 : Int32) = -1 then f_Store_update_b61 m j3 (nI B) M (-1) else _) = _
        rw [if_pos rfl]
        unfold f_Store_update_b61
        rw [if_pos rfl]
        rfl
      | some i =>
        have hi : i < e := by have := (fst_some _ _ _ q).2; omega
        have hl := Nat.mul_le_mul_right k (show i + 1 ≤ e from hi)
        rw [Nat.add_mul, Nat.one_mul] at hl
        have b4 := mul_64 b3 b1
        show (if nI i = -1 then _ else _) = _
        have e1 : mI (wI M 15 jh i 1) 12 m 1 = nI k := by rw [wI_j (fun z => absurd z.1 (by decide))]; exact s1
        have e14 : ∀ j, mI (wI M 15 jh i 1) 14 j = mI M 14 j := fun j => wI_o (fun z => absurd z.1 (by decide))
        rw [if_neg (rE_no (by omega)), s6, bd_some, show rE (some i) = nI i from rfl, nI_tn (by omega), s9, gd_pos (show ¬ (nI i < 0 ∨ e ≤ i) from fun z => z.elim (nI_ps (by omega)) (fun q => by omega)), show vp_nar .boolean 1 = 1 from rfl, st_eq, s4, bd_some, e1, mul_nI, nI_tn (by omega), nI_tn (by omega), nI_tn (by omega)]
        rw [gd_pos (show ¬ nI A < 0 ∧ ¬ nI (i * k) < 0 ∧ ¬ nI k < 0 ∧ A + k ≤ mZ (wI M 15 jh i 1) 14 j1 ∧ i * k + k ≤ mZ (wI M 15 jh i 1) 14 jk from ⟨nI_ps (by omega), nI_ps (by omega), nI_ps (by omega), hA, by show i * k + k ≤ mZ M 14 jk; rw [s7 t]; omega⟩), st_eq, e14, e14]
        rw [b61 (M := wA (wI M 15 jh i 1) 14 jk (va_cpy (mI M 14 j1) (mI M 14 jk) A (i * k) k)) (e := e) (jv := jv) (v := v) (by rw [wA_o (fun z => absurd z.1 (by decide)), wI_j (fun z => absurd z.1 (by decide))]; exact s2) s5 s8 b2 b3 hi hB hZ3]
        rfl
    · rw [if_pos (s10.mpr t), ic_f t]
      unfold f_Store_update_b61
      rw [if_pos (show rE none = -1 from rfl)]
theorem cdel (hS : sS M m k v e jk jv jh tbl) {o : Option Nat} (ho : f_Store_entryOf M m j1 (nI A) = some (M, rE o)) (hoe : ∀ i, o = some i → i < e) : f_Store_delete M m j1 (nI A) = ic tbl (cd_r M jh o) (some (M, -1)) := by
  obtain ⟨⟨s1, s2, s3⟩, ⟨s4, s5, s6⟩, ⟨s7, s8, s9⟩, s10, ⟨b1, b2, b3⟩, k4⟩ := hS
  unfold f_Store_delete
  by_cases t : tbl
  · rw [if_neg (fun z => s10.mp z t), ic_t t, ho, b2_some]
    cases o with
    | some i =>
      have hi := hoe i rfl
      show (if nI i = -1 then _ else _) = _
      rw [if_neg (rE_no (by omega)), s6, bd_some, show rE (some i) = nI i from rfl, nI_tn (by omega), s9, gd_pos (show ¬ (nI i < 0 ∨ e ≤ i) from fun z => z.elim (nI_ps (by omega)) (fun q => by omega)), st_eq]
      rfl
    | none =>
      show (if (-1 : Int32) = -1 then _ else _) = _
      rw [if_pos rfl]
      rfl
  · rw [if_pos (s10.mpr t), ic_f t]
end HCS
