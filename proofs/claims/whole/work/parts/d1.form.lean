/-! PURE: the form of a slot (the document's section C). -/
abbrev f_one (c : Int64) : Prop := if d_rf c = 0 then d_from c = 0 else d_field c = 0
abbrev f_64 (c : Int64) : Prop := d_field c = 16 ∨ (d_field c = 32 ∨ d_field c = 64)
abbrev f_fs (c : Int64) : Prop := if d_opn c = 14 then f_64 c else if d_opn c = 13 then f_64 c else if d_opn c = 11 then d_field c = 0 else True
def f_shp (c w : Int64) (l : Prop) : Prop :=
  if d_fam c = 1 then d_off c = 0 ∧ ¬ 1 < d_from c ∧ l ∧ w &&& 4294967295 = 0 ∧ (d_from c = 0 ∨ w = 0)
  else if d_fam c = 2 then d_field c = 0 else if d_fam c = 3 then d_field c = 0 else if d_fam c = 4 then d_from c = 0 else if d_fam c = 5 then d_field c = 0
  else if d_fam c = 6 then d_off c = 0 ∧ f_one c ∧ f_fs c
  else if d_fam c = 7 then d_field c = 0 ∧ d_to c = 0 ∧ d_from c = 0
  else if d_fam c = 8 then f_one c
  else if d_fam c = 9 then d_off c = 0 ∧ d_to c = 0 ∧ d_from c = 0
  else if d_fam c = 10 then d_field c = 0 ∧ d_off c = 0 ∧ d_to c = 0 ∧ d_from c = 0
  else False
/-- a FIELD that is wrong -/
def f_wr (c : Int64) : Prop := if d_opn c = 3 then d_field c = 0 else if d_opn c = 4 then d_field c = 0 else if d_opn c < 8 then False else if 10 < d_opn c then False else (d_field c < 0 ∨ (if d_nar c = 0 then ¬ d_field c ≤ 63 else ¬ d_field c ≤ 31))
noncomputable def f_flt (c w : Int64) (l : Prop) (m : Int32) : Int32 :=
  ic (f_shp c w l) (ic (10 < d_to c ∨ 10 < d_from c ∨ ((d_fam c = 1 ∨ d_fam c = 2 ∨ d_fam c = 6) ∧ d_to c = 10)) 2 (ic (d_fam c = 6 ∧ d_rf c = 0 ∧ f_wr c) 3 (ic (d_fam c = 9 ∧ (d_field c < 1 ∨ ¬ d_field c ≤ 6)) 4 (ic (d_fam c = 1 ∧ d_from c = 1 ∧ (d_field c < 0 ∨ ¬ d_field c < m)) 4 0)))) 1
section FO
variable {M : me_M} {c w : Int64} {n k : Nat} {P Q : Prop} {m : Int32}
theorem i_1 [Decidable P] : (if P then some (M, (1 : Int32)) else some (M, (0 : Int32))) = some (M, b1 P) := by
  by_cases h : P
  · rw [if_pos h, b1_t h]
  · rw [if_neg h, b1_f h]
theorem i_2 [Decidable P] : (if P then some (M, b1 Q) else some (M, (0 : Int32))) = some (M, b1 (P ∧ Q)) := by
  by_cases h : P
  · rw [if_pos h, b1_c (show Q ↔ (P ∧ Q) from ⟨fun z => ⟨h, z⟩, fun z => z.2⟩)]
  · rw [if_neg h, b1_f (fun z => h z.1)]
theorem i_3 [Decidable P] : (if P then some (M, (1 : Int32)) else some (M, b1 Q)) = some (M, b1 (P ∨ Q)) := by
  by_cases h : P
  · rw [if_pos h, b1_t (Or.inl h)]
  · rw [if_neg h, b1_c (show Q ↔ (P ∨ Q) from ⟨Or.inr, fun z => z.elim (fun q => absurd q h) id⟩)]
theorem i_4 [Decidable P] : (if P then some (M, (0 : Int32)) else some (M, b1 Q)) = some (M, b1 (¬ P ∧ Q)) := by
  by_cases h : P
  · rw [if_pos h, b1_f (fun z => z.1 h)]
  · rw [if_neg h, b1_c (show Q ↔ (¬ P ∧ Q) from ⟨fun z => ⟨h, z⟩, fun z => z.2⟩)]
theorem i_5 [Decidable P] {S : Prop} : (if P then some (M, b1 Q) else some (M, b1 S)) = some (M, b1 (if P then Q else S)) := by
  by_cases h : P
  · rw [if_pos h, if_pos h]
  · rw [if_neg h, if_neg h]
theorem c_one (hl : lk M 0 c) : f_Code_isOneOperand M 0 = some (M, b1 (f_one c)) := by
  obtain ⟨l1, l2, l3, l4, l5, l6, l7, l8, l9, l10, l11⟩ := hl
  unfold f_Code_isOneOperand
  rw [l11, l3, l5, i_1, i_1, i_5]
theorem c_fs (hl : lk M 0 c) : f_Code_isFieldShaped M 0 = some (M, b1 (f_fs c)) := by
  obtain ⟨l1, l2, l3, l4, l5, l6, l7, l8, l9, l10, l11⟩ := hl
  unfold f_Code_isFieldShaped f_Code_isFieldShaped_b18
  rw [l8, l5, i_1, i_3, i_3, i_1, show some (M, (1 : Int32)) = some (M, b1 True) by rw [b1_t trivial], i_5, i_5, i_5]
theorem c_shp (hl : lk M 0 c) (h3 : mI M 2 0 3 = nI n) (hR : mR M 2 0 0 = some 0) (hZ : mZ M 16 0 = 2000) (hk : k < n) (hn : n ≤ 2000) : f_Code_isShaped M 0 (nI k) = some (M, b1 (f_shp c (mL M 16 0 (k + 1)) (k + 1 < n))) := by
  have o1 := c_one hl
  have o2 := c_fs hl
  obtain ⟨l1, l2, l3, l4, l5, l6, l7, l8, l9, l10, l11⟩ := hl
  unfold f_Code_isShaped f_shp
  rw [l6, l4, l3, l5, l2, h3, nI_s]
  by_cases f1 : d_fam c = 1
  · rw [if_pos f1, if_pos f1]
    by_cases lt : k + 1 < n
    · rw [if_neg (show ¬ nI n ≤ nI (k + 1) from fun z => by have := (nI_lei (by omega) (by omega)).mp z; omega), hR, bd_some, hZ, gd_pos (ix_ok (by omega) (by decide)), nI_tn (by omega), i_1, i_3, i_2, i_4, i_2]
      exact congrArg some (Prod.ext rfl (b1_c ⟨fun z => ⟨z.1, z.2.1, lt, z.2.2⟩, fun z => ⟨z.1, z.2.1, z.2.2.2⟩⟩))
    · rw [if_pos (show nI n ≤ nI (k + 1) from (nI_lei (by omega) (by omega)).mpr (by omega)), b1_f (fun z => lt z.2.2.1)]
      split
      · split <;> rfl
      · rfl
  rw [if_neg f1, if_neg f1]
  by_cases f2 : d_fam c = 2
  · rw [if_pos f2, if_pos f2, i_1]
  rw [if_neg f2, if_neg f2]
  by_cases f3 : d_fam c = 3
  · rw [if_pos f3, if_pos f3, i_1]
  rw [if_neg f3, if_neg f3]
  by_cases f4 : d_fam c = 4
  · rw [if_pos f4, if_pos f4, i_1]
  rw [if_neg f4, if_neg f4]
  by_cases f5 : d_fam c = 5
  · rw [if_pos f5, if_pos f5, i_1]
  rw [if_neg f5, if_neg f5]
  by_cases f6 : d_fam c = 6
  · rw [if_pos f6, if_pos f6, o1, b2_some, o2, b2_some]
    have e1 : (if b1 (f_fs c) = 0 then some (M, (0 : Int32)) else some (M, (1 : Int32))) = some (M, b1 (f_fs c)) := by
      by_cases h : f_fs c
      · rw [if_neg (b1_n0 h), b1_t h]
      · rw [if_pos (b1_f h), b1_f h]
    have e2 : (if b1 (f_one c) = 0 then some (M, (0 : Int32)) else some (M, b1 (f_fs c))) = some (M, b1 (f_one c ∧ f_fs c)) := by
      by_cases h : f_one c
      · rw [if_neg (b1_n0 h), b1_c (show f_fs c ↔ (f_one c ∧ f_fs c) from ⟨fun z => ⟨h, z⟩, fun z => z.2⟩)]
      · rw [if_pos (b1_f h), b1_f (fun z => h z.1)]
    rw [e1, e2, i_2]
  rw [if_neg f6, if_neg f6]
  by_cases f7 : d_fam c = 7
  · rw [if_pos f7, if_pos f7, i_1, i_2, i_2]
  rw [if_neg f7, if_neg f7]
  by_cases f8 : d_fam c = 8
  · rw [if_pos f8, if_pos f8, o1, b2_some]
  rw [if_neg f8, if_neg f8]
  by_cases f9 : d_fam c = 9
  · rw [if_pos f9, if_pos f9, i_1, i_2, i_2]
  rw [if_neg f9, if_neg f9]
  by_cases f10 : d_fam c = 10
  · rw [if_pos f10, if_pos f10, i_1, i_2, i_2, i_2]
  · rw [if_neg f10, if_neg f10, b1_f id]
theorem c_wr (hl : lk M 0 c) : f_Code_isWrongField M 0 = some (M, b1 (f_wr c)) := by
  obtain ⟨l1, l2, l3, l4, l5, l6, l7, l8, l9, l10, l11⟩ := hl
  unfold f_Code_isWrongField f_Code_isWrongField_b51 f_Code_isWrongField_b52 f_wr
  rw [l8, l5, l9, if_pos (show (0 : Int32) = 0 from rfl), if_neg (show ¬ (1 : Int32) = 0 by decide), i_1]
  have e : ∀ x : Int32, (if d_field c ≤ x then some (M, (0 : Int32)) else some (M, (1 : Int32))) = some (M, b1 (¬ d_field c ≤ x)) := by
    intro x
    by_cases h : d_field c ≤ x
    · rw [if_pos h, b1_f (fun z => z h)]
    · rw [if_neg h, b1_t h]
  rw [e, e, i_5, i_3, show some (M, (0 : Int32)) = some (M, b1 False) by rw [b1_f id], i_5, i_5, i_5, i_5]
theorem c_flt (hl : lk M 0 c) (h3 : mI M 2 0 3 = nI n) (hR : mR M 2 0 0 = some 0) (hZ : mZ M 16 0 = 2000) (hk : k < n) (hn : n ≤ 2000) : f_Code_faultOfSlot M 0 (nI k) m = some (M, f_flt c (mL M 16 0 (k + 1)) (k + 1 < n) m) := by
  have o1 := c_shp hl h3 hR hZ hk hn
  have o2 := c_wr hl
  obtain ⟨l1, l2, l3, l4, l5, l6, l7, l8, l9, l10, l11⟩ := hl
  unfold f_Code_faultOfSlot f_flt
  rw [o1, b2_some]
  by_cases s : f_shp c (mL M 16 0 (k + 1)) (k + 1 < n)
  · rw [if_neg (b1_n0 s), ic_t s]
    have b127 : f_Code_faultOfSlot_b127 0 m M = some (M, ic (d_fam c = 1 ∧ d_from c = 1 ∧ (d_field c < 0 ∨ ¬ d_field c < m)) 4 0) := by
      unfold f_Code_faultOfSlot_b127
      rw [l6, l3, l5]
      by_cases a : d_fam c = 1
      · rw [if_pos a]
        by_cases b : d_from c = 1
        · rw [if_pos b]
          by_cases d : d_field c < 0
          · rw [if_pos d, ic_t ⟨a, b, Or.inl d⟩]
          · rw [if_neg d]
            by_cases e : d_field c < m
            · rw [if_pos e, ic_f (fun z => z.2.2.elim d (fun q => q e))]
            · rw [if_neg e, ic_t ⟨a, b, Or.inr e⟩]
        · rw [if_neg b, ic_f (fun z => b z.2.1)]
      · rw [if_neg a, ic_f (fun z => a z.1)]
    have b99 : f_Code_faultOfSlot_b99 0 m M = some (M, ic (d_fam c = 9 ∧ (d_field c < 1 ∨ ¬ d_field c ≤ 6)) 4 (ic (d_fam c = 1 ∧ d_from c = 1 ∧ (d_field c < 0 ∨ ¬ d_field c < m)) 4 0)) := by
      unfold f_Code_faultOfSlot_b99
      rw [l6, l5, b127]
      by_cases a : d_fam c = 9
      · rw [if_pos a]
        by_cases d : d_field c < 1
        · rw [if_pos d]
          exact congrArg some (Prod.ext rfl (ic_t ⟨a, Or.inl d⟩).symm)
        · rw [if_neg d]
          by_cases e : d_field c ≤ 6
          · rw [if_pos e]
            exact congrArg some (Prod.ext rfl (ic_f (fun z => z.2.elim d (fun q => q e))).symm)
          · rw [if_neg e]
            exact congrArg some (Prod.ext rfl (ic_t ⟨a, Or.inr e⟩).symm)
      · rw [if_neg a]
        exact congrArg some (Prod.ext rfl (ic_f (fun z => a z.1)).symm)
    have b74 : f_Code_faultOfSlot_b74 0 m M = some (M, ic (d_fam c = 6 ∧ d_rf c = 0 ∧ f_wr c) 3 (ic (d_fam c = 9 ∧ (d_field c < 1 ∨ ¬ d_field c ≤ 6)) 4 (ic (d_fam c = 1 ∧ d_from c = 1 ∧ (d_field c < 0 ∨ ¬ d_field c < m)) 4 0))) := by
      unfold f_Code_faultOfSlot_b74
      rw [l6, l11, b99, o2, b2_some, b99]
      by_cases a : d_fam c = 6
      · rw [if_pos a]
        by_cases d : d_rf c = 0
        · rw [if_pos d]
          by_cases e : f_wr c
          · rw [if_neg (b1_n0 e)]
            exact congrArg some (Prod.ext rfl (ic_t ⟨a, d, e⟩).symm)
          · rw [if_pos (b1_f e)]
            exact congrArg some (Prod.ext rfl (ic_f (fun z => e z.2.2)).symm)
        · rw [if_neg d]
          exact congrArg some (Prod.ext rfl (ic_f (fun z => d z.2.1)).symm)
      · rw [if_neg a]
        exact congrArg some (Prod.ext rfl (ic_f (fun z => a z.1)).symm)
    have b40 : ∀ v : Int32, (¬ v = 0 ↔ (d_fam c = 1 ∨ d_fam c = 2 ∨ d_fam c = 6)) → f_Code_faultOfSlot_b40 0 m M v = some (M, ic (10 < d_to c ∨ 10 < d_from c ∨ ((d_fam c = 1 ∨ d_fam c = 2 ∨ d_fam c = 6) ∧ d_to c = 10)) 2 (ic (d_fam c = 6 ∧ d_rf c = 0 ∧ f_wr c) 3 (ic (d_fam c = 9 ∧ (d_field c < 1 ∨ ¬ d_field c ≤ 6)) 4 (ic (d_fam c = 1 ∧ d_from c = 1 ∧ (d_field c < 0 ∨ ¬ d_field c < m)) 4 0)))) := by
      intro v hv
      unfold f_Code_faultOfSlot_b40
      rw [l2, l3, b74]
      by_cases a : 10 < d_to c
      · rw [if_pos a]
        exact congrArg some (Prod.ext rfl (ic_t (Or.inl a)).symm)
      rw [if_neg a]
      by_cases b : 10 < d_from c
      · rw [if_pos b]
        exact congrArg some (Prod.ext rfl (ic_t (Or.inr (Or.inl b))).symm)
      rw [if_neg b]
      by_cases d : v = 0
      · rw [if_pos d]
        exact congrArg some (Prod.ext rfl (ic_f (fun z => z.elim a (fun q => q.elim b (fun y => hv.mpr y.1 d)))).symm)
      rw [if_neg d]
      by_cases e : d_to c = 10
      · rw [if_pos e]
        exact congrArg some (Prod.ext rfl (ic_t (Or.inr (Or.inr ⟨hv.mp d, e⟩))).symm)
      · rw [if_neg e]
        exact congrArg some (Prod.ext rfl (ic_f (fun z => z.elim a (fun q => q.elim b (fun y => e y.2)))).symm)
    unfold f_Code_faultOfSlot_b35
    rw [l6]
    by_cases a1 : d_fam c = 1
    · rw [if_pos a1]; exact b40 1 ⟨fun _ => Or.inl a1, fun _ => by decide⟩
    rw [if_neg a1]
    by_cases a2 : d_fam c = 2
    · rw [if_pos a2]; exact b40 1 ⟨fun _ => Or.inr (Or.inl a2), fun _ => by decide⟩
    rw [if_neg a2]
    by_cases a6 : d_fam c = 6
    · rw [if_pos a6]; exact b40 1 ⟨fun _ => Or.inr (Or.inr a6), fun _ => by decide⟩
    rw [if_neg a6]
    exact b40 0 ⟨fun z => absurd rfl z, fun z => by rcases z with z | z | z; exact absurd z a1; exact absurd z a2; exact absurd z a6⟩
  · rw [if_pos (b1_f s), ic_f s]
end FO
