/-! PURE: the reference's maps. -/
def rMs (nm : Nat) (tb : Nat → Prop) (kb vb : Int32 → Int32) (en : Nat → Nat) (W : tyU) (M : me_M) : Prop := mst nm tb kb vb en W (fun m i => mI M 15 0 (64 * m + i)) (fun m i b => mI M 14 1 (16 * (64 * m + i) + b)) (fun m i b => mI M 14 2 (64 * (64 * m + i) + b))
def rEf (f : Int32) : Option Nat → Int32
  | some i => nI i
  | none => f
section IRP
variable {nm : Nat} {tb : Nat → Prop} {kb vb : Int32 → Int32} {en : Nat → Nat} {W : tyU} {M N O : me_M} {i n m s A b : Nat} {key val : Nat → Int32}
theorem ix_16 {m i b : Nat} : (16 * (64 * nI m + nI i) + nI b : Int32) = nI (16 * (64 * m + i) + b) := by rw [show (16 : Int32) = nI 16 from rfl, show (64 : Int32) = nI 64 from rfl, mul_nI, nI_add, mul_nI, nI_add]
theorem ix_64 {m i b : Nat} : (64 * (64 * nI m + nI i) + nI b : Int32) = nI (64 * (64 * m + i) + b) := by rw [show (64 : Int32) = nI 64 from rfl, mul_nI, nI_add, mul_nI, nI_add]
theorem ix_h {m i : Nat} : (64 * nI m + nI i : Int32) = nI (64 * m + i) := by rw [show (64 : Int32) = nI 64 from rfl, mul_nI, nI_add]
/-- the key of entry i is the one read -/
def ryE (M : me_M) (m k i y : Nat) : Prop := ∀ b, y ≤ b → b < k → mI M 14 1 (16 * (64 * m + i) + b) = mI M 14 6 b
theorem rf92 (hS : rSh nm tb kb vb en M) (hn : m < nm) (hi : i < en m) {K66 : me_M → Int32 → Int32 → Option (me_M × Int32)} {y2 : Int32} : ∀ (k b fu : Nat) (y4 : Int32), b + k = kn kb m → k < fu → f_M_findEntry_l92 K66 0 (nI m) fu M y2 (nI i) y4 (nI b) = K66 M (ic (¬ y4 = 0 ∧ ryE M m (kn kb m) i b) (nI i) y2) (nI (i + 1)) := by
  obtain ⟨⟨r5, r6, r7, r8, r9, r10, r11, r16, r17, r35, r36, r39, r43, r44, r45, r46⟩, ⟨y0, y1, y2', y3, y4', y5, y6, y7, y8, y9, y10, y11, y12, y13, y14, y15⟩, hm4, hmm⟩ := hS
  obtain ⟨m1, m2, m3, m4, m5, m6, m7, m8⟩ := hmm m hn
  have gm : ¬ (nI m < 0 ∨ 4 ≤ m) := fun z => z.elim (nI_ps (by omega)) (fun q => by omega)
  intro k
  induction k with
  | zero =>
    intro b fu y4 e hf
    obtain ⟨fu, rfl⟩ : ∃ f, fu = f + 1 := ⟨fu - 1, by omega⟩
    rw [f_M_findEntry_l92, r6, bd_some, nI_tn (by omega), y1, gd_pos gm, m1, if_pos ((nI_lei (by omega) (by omega)).mpr (by omega)), nI_s]
    by_cases g : y4 = 0
    · rw [if_pos g, ic_f (fun z => z.1 g)]
    · rw [if_neg g, ic_t ⟨g, fun b h1 h2 => by omega⟩]
  | succ k ih =>
    intro b fu y4 e hf
    obtain ⟨fu, rfl⟩ : ∃ f, fu = f + 1 := ⟨fu - 1, by omega⟩
    rw [f_M_findEntry_l92, r6, bd_some, nI_tn (by omega), y1, gd_pos gm, m1, if_neg (fun z => by have := (nI_lei (by omega) (by omega)).mp z; omega), nI_s]
    by_cases g : y4 = 0
    · rw [if_pos g, ih (b + 1) fu 0 (by omega) (by omega), ic_f (fun z => z.1 rfl), ic_f (fun z => z.1 g)]
    · rw [if_neg g, r10, bd_some, ix_16, nI_tn (by omega), nI_tn (by omega), y4', gd_pos (show ¬ (nI (16 * (64 * m + i) + b) < 0 ∨ 4096 ≤ 16 * (64 * m + i) + b) from fun z => z.elim (nI_ps (by omega)) (fun q => by omega)), r45, bd_some, y9, gd_pos (show ¬ (nI b < 0 ∨ 64 ≤ b) from fun z => z.elim (nI_ps (by omega)) (fun q => by omega))]
      by_cases q : mI M 14 1 (16 * (64 * m + i) + b) = mI M 14 6 b
      · rw [if_pos q, ih (b + 1) fu 1 (by omega) (by omega)]
        rw [ic_c (Q := ¬ y4 = 0 ∧ ryE M m (kn kb m) i b) ⟨fun z => ⟨g, fun b2 h1 h2 => by
          by_cases eb : b2 = b
          · rw [eb]; exact q
          · exact z.2 b2 (by omega) h2⟩, fun z => ⟨by decide, fun b2 h1 h2 => z.2 b2 (by omega) h2⟩⟩]
      · rw [if_neg q, ih (b + 1) fu 0 (by omega) (by omega), ic_f (fun z => z.1 rfl), ic_f (fun z => q (z.2 b (Nat.le_refl _) (by omega)))]
theorem fst_ge {P : Nat → Prop} : ∀ (n y i : Nat), x_fst P n y = some i → y ≤ i := by
  intro n
  induction n with
  | zero => intro y i h; cases h
  | succ n ih =>
    intro y i h
    rw [x_fst] at h
    by_cases e : P y
    · rw [ic_t e] at h
      have := Option.some.inj h
      omega
    · rw [ic_f e] at h
      have := ih (y + 1) i h
      omega
theorem rf66 (hS : rSh nm tb kb vb en M) (hn : m < nm) (hu : ∀ i j, i < en m → j < en m → (¬ mI M 15 0 (64 * m + i) = 0 ∧ ryE M m (kn kb m) i 0) → (¬ mI M 15 0 (64 * m + j) = 0 ∧ ryE M m (kn kb m) j 0) → i = j) : ∀ (k y fu : Nat) (f : Int32), y + k = en m → k < fu → f_M_findEntry_l66 0 (nI m) fu M f (nI y) = some (M, rEf f (x_fst (fun i => ¬ mI M 15 0 (64 * m + i) = 0 ∧ ryE M m (kn kb m) i 0) k y)) := by
  have hS2 := hS
  obtain ⟨⟨r5, r6, r7, r8, r9, r10, r11, r16, r17, r35, r36, r39, r43, r44, r45, r46⟩, ⟨y0, y1, y2', y3, y4', y5, y6, y7, y8, y9, y10, y11, y12, y13, y14, y15⟩, hm4, hmm⟩ := hS2
  obtain ⟨m1, m2, m3, m4, m5, m6, m7, m8⟩ := hmm m hn
  have gm : ¬ (nI m < 0 ∨ 4 ≤ m) := fun z => z.elim (nI_ps (by omega)) (fun q => by omega)
  intro k
  induction k with
  | zero =>
    intro y fu f e hf
    obtain ⟨fu, rfl⟩ : ∃ f, fu = f + 1 := ⟨fu - 1, by omega⟩
    rw [f_M_findEntry_l66, r8, bd_some, nI_tn (by omega), y3, gd_pos gm, m3, if_pos ((nI_lei (by omega) (by omega)).mpr (by omega))]
    rfl
  | succ k ih =>
    intro y fu f e hf
    obtain ⟨fu, rfl⟩ : ∃ f, fu = f + 1 := ⟨fu - 1, by omega⟩
    have h92 := rf92 hS hn (i := y) (by omega) (K66 := f_M_findEntry_l66 0 (nI m) fu) (y2 := f) (kn kb m) 0 fuel (mI M 15 0 (64 * m + y)) (by omega) (by unfold fuel; omega)
    have h92 : f_M_findEntry_l92 (f_M_findEntry_l66 0 (nI m) fu) 0 (nI m) fuel M f (nI y) (mI M 15 0 (64 * m + y)) 0 = _ := h92
    rw [f_M_findEntry_l66, r8, bd_some, nI_tn (by omega), y3, gd_pos gm, m3, if_neg (fun z => by have := (nI_lei (by omega) (by omega)).mp z; omega), r9, bd_some, ix_h, nI_tn (by omega), y11, gd_pos (show ¬ (nI (64 * m + y) < 0 ∨ 256 ≤ 64 * m + y) from fun z => z.elim (nI_ps (by omega)) (fun q => by omega)), st_eq, h92, ih (y + 1) fu _ (by omega) (by omega), x_fst]
    by_cases P : ¬ mI M 15 0 (64 * m + y) = 0 ∧ ryE M m (kn kb m) y 0
    · rw [ic_t P, ic_t P]
      cases q : x_fst (fun i => ¬ mI M 15 0 (64 * m + i) = 0 ∧ ryE M m (kn kb m) i 0) k (y + 1) with
      | none => rfl
      | some j =>
        exfalso
        obtain ⟨p1, p2⟩ := fst_some _ _ _ q
        have ge : y + 1 ≤ j := fst_ge _ _ _ q
        have := hu y j (by omega) (by omega) P p1
        omega
    · rw [ic_f P, ic_f P]
theorem rf14 (hS : rSh nm tb kb vb en M) (hn : m < nm) : ∀ (i fu : Nat) (w : Int64), i ≤ 4 → i < fu → f_M_findEntry_l14 0 (nI m) fu M w (nI i + -1) = (if yn (mI M 14 6) 0 i w < (nI (en m)).toInt64 then some (M, (yn (mI M 14 6) 0 i w).toInt32) else some (M, -1)) := by
  obtain ⟨⟨r5, r6, r7, r8, r9, r10, r11, r16, r17, r35, r36, r39, r43, r44, r45, r46⟩, ⟨y0, y1, y2', y3, y4', y5, y6, y7, y8, y9, y10, y11, y12, y13, y14, y15⟩, hm4, hmm⟩ := hS
  obtain ⟨m1, m2, m3, m4, m5, m6, m7, m8⟩ := hmm m hn
  have gm : ¬ (nI m < 0 ∨ 4 ≤ m) := fun z => z.elim (nI_ps (by omega)) (fun q => by omega)
  intro i
  induction i with
  | zero =>
    intro fu w _ hf
    obtain ⟨fu, rfl⟩ : ∃ f, fu = f + 1 := ⟨fu - 1, by omega⟩
    rw [f_M_findEntry_l14, if_pos (show nI 0 + -1 < 0 by decide), r8, bd_some, nI_tn (by omega), y3, gd_pos gm, m3]
    rfl
  | succ i ih =>
    intro fu w hi hf
    obtain ⟨fu, rfl⟩ : ∃ f, fu = f + 1 := ⟨fu - 1, by omega⟩
    rw [nI_dec, f_M_findEntry_l14, if_neg (nI_ps (by omega)), r45, bd_some, nI_tn (by omega), y9, gd_pos (show ¬ (nI i < 0 ∨ 64 ≤ i) from fun z => z.elim (nI_ps (by omega)) (fun q => by omega)), st_eq, ih fu _ (by omega) (by omega), yn, and_64, Nat.zero_add]
theorem rfind (hS : rSh nm tb kb vb en M) (hst : rMs nm tb kb vb en W M) (hD : uD nm tb kb en W) (hn : m < nm) (hk : ∀ b, b < kn kb m → key b = mI M 14 6 b) : f_M_findEntry M 0 (nI m) = some (M, rE (u_find tb kb en W m key)) := by
  have hS2 := hS
  obtain ⟨⟨r5, r6, r7, r8, r9, r10, r11, r16, r17, r35, r36, r39, r43, r44, r45, r46⟩, ⟨y0, y1, y2', y3, y4', y5, y6, y7, y8, y9, y10, y11, y12, y13, y14, y15⟩, hm4, hmm⟩ := hS2
  obtain ⟨m1, m2, m3, m4, m5, m6, m7, m8⟩ := hmm m hn
  have gm : ¬ (nI m < 0 ∨ 4 ≤ m) := fun z => z.elim (nI_ps (by omega)) (fun q => by omega)
  unfold f_M_findEntry
  rw [r5, bd_some, nI_tn (by omega), y0, gd_pos gm, m4]
  by_cases t : tb m
  · rw [ic_t t, if_neg (by decide)]
    obtain ⟨g1, g2, g3⟩ := hst m hn
    have pp : ∀ i, i < en m → ((¬ mI M 15 0 (64 * m + i) = 0 ∧ ryE M m (kn kb m) i 0) ↔ (¬ mI M 15 0 (64 * m + i) = 0 ∧ ∀ b, b < (kb (nI m)).toNatClampNeg → mI M 14 1 (16 * (64 * m + i) + b) = key b)) := by
      intro i hi
      constructor
      · rintro ⟨z1, z2⟩
        exact ⟨z1, fun b hb => by rw [hk b hb]; exact z2 b (by omega) hb⟩
      · rintro ⟨z1, z2⟩
        exact ⟨z1, fun b _ hb => by rw [← hk b hb]; exact z2 b hb⟩
    have un : ∀ i j, i < en m → j < en m → (¬ mI M 15 0 (64 * m + i) = 0 ∧ ryE M m (kn kb m) i 0) → (¬ mI M 15 0 (64 * m + j) = 0 ∧ ryE M m (kn kb m) j 0) → i = j := by
      intro i j hi hj p1 p2
      have u1 : uH W m i := Classical.not_not.mp (fun q => p1.1 ((g1 i hi).mpr q))
      have u2 : uH W m j := Classical.not_not.mp (fun q => p2.1 ((g1 j hj).mpr q))
      refine (hD m hn).2 t i j hi hj u1 u2 (fun b hb => ?_)
      have a1 := g3 t i hi u1 b hb
      have a2 := g3 t j hj u2 b hb
      rw [← a1, ← a2]
      exact (p1.2 b (by omega) hb).trans (p2.2 b (by omega) hb).symm
    have h66 := rf66 hS hn un (en m) 0 fuel (-1) (by omega) (by unfold fuel; omega)
    have h66 : f_M_findEntry_l66 0 (nI m) fuel M (-1) 0 = _ := h66
    rw [h66, ← fnd_c hst hn t]
    rw [fst_c (P := fun i => ¬ mI M 15 0 (64 * m + i) = 0 ∧ ryE M m (kn kb m) i 0) (Q := fun i => ¬ mI M 15 0 (64 * m + i) = 0 ∧ ∀ b, b < (kb (nI m)).toNatClampNeg → mI M 14 1 (16 * (64 * m + i) + b) = key b) (en m) 0 (fun i _ hi => pp i (by omega))]
    cases x_fst (fun i => ¬ mI M 15 0 (64 * m + i) = 0 ∧ ∀ b, b < (kb (nI m)).toNatClampNeg → mI M 14 1 (16 * (64 * m + i) + b) = key b) (en m) 0 with
    | none => rfl
    | some j => rfl
  · have k4 := m5 t
    rw [ic_f t, if_pos rfl, show (3 : Int32) = nI 4 + -1 from by decide, rf14 hS hn 4 fuel 0 (by omega) (by unfold fuel; omega)]
    unfold u_find
    rw [ic_f t]
    have ey : yn key 0 4 0 = yn (mI M 14 6) 0 4 0 := yn_c 4 0 (fun i hi => by rw [Nat.zero_add]; exact hk i (by omega))
    rw [ey]
    obtain ⟨y1, y2⟩ := yn_4 (f := mI M 14 6) (A := 0)
    generalize yn (mI M 14 6) 0 4 0 = w at y1 y2 ⊢
    by_cases q : w < (nI (en m)).toInt64
    · rw [if_pos q, if_pos q]
      rw [i64_lt, nI_6 (by omega)] at q
      congr 2
      show w.toInt32 = nI w.toNatClampNeg
      have ew := tn_pos y1
      exact Int32.toInt_inj.mp (by rw [i64_of (by omega) (by omega), nI_int (by omega), ew])
    · rw [if_neg q, if_neg q]
      rfl
end IRP
