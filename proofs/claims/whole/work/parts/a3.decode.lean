/-! PURE: an instruction taken apart. -/
def d_op (c : Int64) : Int32 := c.toInt32 &&& 255
def d_to (c : Int64) : Int32 := (jlushr c 8).toInt32 &&& 15
def d_from (c : Int64) : Int32 := (jlushr c 12).toInt32 &&& 15
def d_off (c : Int64) : Int32 := (jlushr c 16).toInt32.toInt16.toInt32
def d_field (c : Int64) : Int32 := (jlushr c 32).toInt32
/-- of memory -/
def k_mem (op : Int32) : Int32 := if op &&& 7 = 0 then (if op = 24 then 1 else 0) else if op &&& 7 = 1 then (if op &&& 224 = 96 then 2 else 0) else if op &&& 7 = 2 then (if op &&& 224 = 96 then 4 else 0) else if op &&& 7 = 3 then (if op &&& 224 = 96 then 3 else if op = 219 then 5 else if op = 195 then 5 else 0) else 0
def k_by (op : Int32) : Int32 := fz_s ((jishr op 3) &&& 3).toNatClampNeg
/-- family, operation, narrow, reads TO, reads FROM -/
abbrev kD : Type := Int32 × Int32 × Int32 × Int32 × Int32
def k_base (op : Int32) : kD := (k_mem op, -1, 0, (if k_mem op = 3 ∨ k_mem op = 4 ∨ k_mem op = 5 then 1 else 0), (if k_mem op = 2 ∨ k_mem op = 3 ∨ k_mem op = 5 then 1 else 0))
def k_fr (op : Int32) : Int32 := if op &&& 8 = 0 then 0 else 1
/-- the end of an arithmetic one -/
def k_are (op : Int32) (d : kD) : kD := if d.2.1 < 0 then d else if d.2.1 = 11 ∧ ¬ k_fr op = 0 then d else (6, d.2.1, d.2.2.1, (if d.2.1 = 12 then 0 else 1), d.2.2.2.2)
def k_ar (op x : Int32) (d : kD) : kD := if op = 212 then k_are op (d.1, 14, d.2.2.1, d.2.2.2.1, d.2.2.2.2) else if op = 220 then k_are op (d.1, 13, d.2.2.1, d.2.2.2.1, d.2.2.2.2) else k_are op (d.1, fz_o (jishr op 4).toNatClampNeg, x, d.2.2.2.1, k_fr op)
def k_ju (op x : Int32) (d : kD) : kD := if fz_r (jishr op 4).toNatClampNeg < 0 then ((if op = 5 then 7 else if op = 133 then 9 else if op = 149 then 10 else d.1), fz_r (jishr op 4).toNatClampNeg, d.2.2.1, d.2.2.2.1, d.2.2.2.2) else (8, fz_r (jishr op 4).toNatClampNeg, x, 1, k_fr op)
def kd (op : Int32) : kD := if op &&& 7 = 4 then k_ar op 1 (k_base op) else if op &&& 7 = 7 then k_ar op 0 (k_base op) else if op &&& 7 = 5 then k_ju op 0 (k_base op) else if op &&& 7 = 6 then k_ju op 1 (k_base op) else k_base op
def d_fam (c : Int64) : Int32 := (kd (d_op c)).1
def d_opn (c : Int64) : Int32 := (kd (d_op c)).2.1
def d_nar (c : Int64) : Int32 := (kd (d_op c)).2.2.1
def d_rt (c : Int64) : Int32 := (kd (d_op c)).2.2.2.1
def d_rf (c : Int64) : Int32 := (kd (d_op c)).2.2.2.2
def d_by (c : Int64) : Int32 := k_by (d_op c)
theorem and_255 (z : Int32) : ∃ k, k < 256 ∧ z &&& 255 = nI k := by
  refine ⟨(z &&& 255).toBitVec.toNat, ?_, ?_⟩
  · rw [Int32.toBitVec_and, BitVec.toNat_and]
    exact Nat.lt_of_le_of_lt Nat.and_le_right (by decide)
  · apply Int32.toBitVec_inj.mp
    apply BitVec.eq_of_toNat_eq
    exact (Nat.mod_eq_of_lt (z &&& 255).toBitVec.isLt).symm
theorem and_15 (z : Int32) : ∃ k, k < 16 ∧ z &&& 15 = nI k := by
  refine ⟨(z &&& 15).toBitVec.toNat, ?_, ?_⟩
  · rw [Int32.toBitVec_and, BitVec.toNat_and]
    exact Nat.lt_of_le_of_lt Nat.and_le_right (by decide)
  · apply Int32.toBitVec_inj.mp
    apply BitVec.eq_of_toNat_eq
    exact (Nat.mod_eq_of_lt (z &&& 15).toBitVec.isLt).symm
/-- the ints of a Code that looks at c -/
def lk (M : me_M) (j : Nat) (c : Int64) : Prop := mI M 2 j 5 = d_op c ∧ mI M 2 j 6 = d_to c ∧ mI M 2 j 7 = d_from c ∧ mI M 2 j 8 = d_off c ∧ mI M 2 j 9 = d_field c ∧ mI M 2 j 10 = d_fam c ∧ mI M 2 j 11 = d_by c ∧ mI M 2 j 12 = d_opn c ∧ mI M 2 j 13 = d_nar c ∧ mI M 2 j 14 = d_rt c ∧ mI M 2 j 15 = d_rf c
/-- its six ints that come of the op -/
def l6 (M : me_M) (j : Nat) (op : Int32) (d : kD) : Prop := mI M 2 j 5 = op ∧ mI M 2 j 10 = d.1 ∧ mI M 2 j 12 = d.2.1 ∧ mI M 2 j 13 = d.2.2.1 ∧ mI M 2 j 14 = d.2.2.2.1 ∧ mI M 2 j 15 = d.2.2.2.2
/-- M1 is M but for the ints 10, 12 .. 15 of the Code j -/
def lq (j : Nat) (M M1 : me_M) : Prop := fr (fun k i => k = 2 ∧ i = j) M M1 ∧ (∀ f, ¬ f = 10 → ¬ f = 12 → ¬ f = 13 → ¬ f = 14 → ¬ f = 15 → mI M1 2 j f = mI M 2 j f) ∧ mL M1 2 j = mL M 2 j
section LK
variable {M M1 M2 : me_M} {j : Nat} {op x : Int32} {d : kD}
theorem lq_refl : lq j M M := ⟨fr_refl, fun _ _ _ _ _ _ => rfl, rfl⟩
theorem lq_trans (h : lq j M M1) (g : lq j M1 M2) : lq j M M2 := ⟨fr_trans h.1 g.1, fun f a b c d e => (g.2.1 f a b c d e).trans (h.2.1 f a b c d e), g.2.2.trans h.2.2⟩
theorem lq_w {f : Nat} {v : Int32} (h : f = 10 ∨ f = 12 ∨ f = 13 ∨ f = 14 ∨ f = 15) : lq j M (wI M 2 j f v) := by
  refine ⟨fr_I ⟨rfl, rfl⟩, ?_, rfl⟩
  intro g a b c d e
  refine if_neg (fun z => ?_)
  rcases h with r | r | r | r | r
  · exact a (z.2.2.trans r)
  · exact b (z.2.2.trans r)
  · exact c (z.2.2.trans r)
  · exact d (z.2.2.trans r)
  · exact e (z.2.2.trans r)
theorem lk_mem (h : mI M 2 j 5 = op) : f_Code_familyOfMemory M j = some (M, k_mem op) := by
  unfold f_Code_familyOfMemory f_Code_familyOfMemory_b18 k_mem
  rw [h]
  by_cases g : op &&& 224 = 96
  · simp only [if_pos g, show ¬ (1 : Int32) = 0 from by decide, if_false]
    repeat' split
    all_goals rfl
  · simp only [if_neg g, if_true]
    repeat' split
    all_goals rfl
theorem lk_are (h : l6 M j op d) : ∃ M1, f_Code_lookAtArithmetic_b84 j M (k_fr op) = some M1 ∧ l6 M1 j op (k_are op d) ∧ lq j M M1 := by
  have fin : ∃ M1, f_Code_lookAtArithmetic_b104 j M = some M1 ∧ l6 M1 j op (6, d.2.1, d.2.2.1, (if d.2.1 = 12 then 0 else 1), d.2.2.2.2) ∧ lq j M M1 := by
    unfold f_Code_lookAtArithmetic_b104
    rw [st_eq, show mI (wI M 2 j 10 6) 2 j 12 = d.2.1 from (pI_place (by decide)).trans h.2.2.1]
    by_cases g : d.2.1 = 12
    · rw [if_pos g, if_pos g]
      refine ⟨_, rfl, ?_, lq_trans (lq_w (by decide)) (lq_w (by decide))⟩
      unfold l6
      simp [pI_I, h.1, h.2.2.1, h.2.2.2.1, h.2.2.2.2.2]
    · rw [if_neg g, if_neg g]
      refine ⟨_, rfl, ?_, lq_trans (lq_w (by decide)) (lq_w (by decide))⟩
      unfold l6
      simp [pI_I, h.1, h.2.2.1, h.2.2.2.1, h.2.2.2.2.2]
  unfold f_Code_lookAtArithmetic_b84 k_are
  rw [h.2.2.1]
  by_cases g : d.2.1 < 0
  · rw [if_pos g, if_pos g]
    exact ⟨M, rfl, h, lq_refl⟩
  · rw [if_neg g, if_neg g]
    by_cases g1 : d.2.1 = 11
    · rw [if_pos g1]
      by_cases g2 : k_fr op = 0
      · rw [if_pos g2, if_neg (fun z => z.2 g2)]; exact fin
      · rw [if_neg g2, if_pos ⟨g1, g2⟩]; exact ⟨M, rfl, h, lq_refl⟩
    · rw [if_neg g1, if_neg (fun z => g1 z.1)]; exact fin
theorem lk_ar (h : l6 M j op d) (hr : ¬ ((jishr op 4) < 0 ∨ 16 ≤ (jishr op 4).toNatClampNeg)) : ∃ M1, f_Code_lookAtArithmetic M j x = some M1 ∧ l6 M1 j op (k_ar op x d) ∧ lq j M M1 := by
  have b15 : ∃ M1, f_Code_lookAtArithmetic_b15 j x M (k_fr op) = some M1 ∧ l6 M1 j op (k_ar op x d) ∧ lq j M M1 := by
    have w12 : ∀ v, l6 (wI M 2 j 12 v) j op (d.1, v, d.2.2.1, d.2.2.2.1, d.2.2.2.2) := by
      intro v
      unfold l6
      simp [pI_I, h.1, h.2.1, h.2.2.2.1, h.2.2.2.2.1, h.2.2.2.2.2]
    unfold f_Code_lookAtArithmetic_b15 f_Code_lookAtArithmetic_b36 f_Code_lookAtArithmetic_b54 k_ar
    rw [h.1]
    by_cases g : op = 212
    · rw [if_pos g, if_pos g, if_pos g, st_eq]
      obtain ⟨M1, a1, a2, a3⟩ := lk_are (w12 14)
      exact ⟨M1, a1, a2, lq_trans (lq_w (by decide)) a3⟩
    · rw [if_neg g, if_neg g, if_neg g]
      by_cases g2 : op = 220
      · rw [if_pos g2, if_pos g2, st_eq]
        obtain ⟨M1, a1, a2, a3⟩ := lk_are (w12 13)
        exact ⟨M1, a1, a2, lq_trans (lq_w (by decide)) a3⟩
      · rw [if_neg g2, if_neg g2, gd_pos hr, st_eq, st_eq, st_eq]
        have q : l6 (wI (wI (wI M 2 j 12 (fz_o (jishr op 4).toNatClampNeg)) 2 j 13 x) 2 j 15 (k_fr op)) j op (d.1, fz_o (jishr op 4).toNatClampNeg, x, d.2.2.2.1, k_fr op) := by
          unfold l6
          simp [pI_I, h.1, h.2.1, h.2.2.2.2.1]
        obtain ⟨M1, a1, a2, a3⟩ := lk_are q
        exact ⟨M1, a1, a2, lq_trans (lq_trans (lq_trans (lq_w (by decide)) (lq_w (by decide))) (lq_w (by decide))) a3⟩
  unfold f_Code_lookAtArithmetic
  unfold k_fr at b15
  rw [h.1]
  by_cases g : op &&& 8 = 0
  · rw [if_pos g] at b15 ⊢; exact b15
  · rw [if_neg g] at b15 ⊢; exact b15
theorem lk_ju (h : l6 M j op d) (hr : ¬ ((jishr op 4) < 0 ∨ 16 ≤ (jishr op 4).toNatClampNeg)) : ∃ M1, f_Code_lookAtJump M j x = some M1 ∧ l6 M1 j op (k_ju op x d) ∧ lq j M M1 := by
  unfold f_Code_lookAtJump k_ju k_fr
  rw [h.1, gd_pos hr, st_eq, show mI (wI M 2 j 12 (fz_r (jishr op 4).toNatClampNeg)) 2 j 12 = fz_r (jishr op 4).toNatClampNeg from pI_same, show mI (wI M 2 j 12 (fz_r (jishr op 4).toNatClampNeg)) 2 j 5 = op from (pI_place (by decide)).trans h.1]
  generalize fz_r (jishr op 4).toNatClampNeg = v
  by_cases g : v < 0
  · rw [if_pos g, if_pos g]
    have k : ∀ f, ∃ M1, st (wI (wI M 2 j 12 v) 2 j 10 f) (fun M10 => some M10) = some M1 ∧ l6 M1 j op (f, v, d.2.2.1, d.2.2.2.1, d.2.2.2.2) ∧ lq j M M1 := by
      intro f
      refine ⟨_, rfl, ?_, lq_trans (lq_w (by decide)) (lq_w (by decide))⟩
      unfold l6
      simp [pI_I, h.1, h.2.2.2.1, h.2.2.2.2.1, h.2.2.2.2.2]
    by_cases g1 : op = 5
    · rw [if_pos g1, if_pos g1]; exact k 7
    rw [if_neg g1, if_neg g1]
    by_cases g2 : op = 133
    · rw [if_pos g2, if_pos g2]; exact k 9
    rw [if_neg g2, if_neg g2]
    by_cases g3 : op = 149
    · rw [if_pos g3, if_pos g3]; exact k 10
    rw [if_neg g3, if_neg g3]
    refine ⟨_, rfl, ?_, lq_w (by decide)⟩
    unfold l6
    simp [pI_I, h.1, h.2.1, h.2.2.2.1, h.2.2.2.2.1, h.2.2.2.2.2]
  · rw [if_neg g, if_neg g, st_eq, st_eq, st_eq]
    have e5 : mI (wI (wI (wI (wI M 2 j 12 v) 2 j 10 8) 2 j 13 x) 2 j 14 1) 2 j 5 = op := by simp [pI_I, h.1]
    rw [e5]
    by_cases g1 : op &&& 8 = 0
    · rw [if_pos g1, if_pos g1]
      refine ⟨_, rfl, ?_, lq_trans (lq_trans (lq_trans (lq_trans (lq_w (by decide)) (lq_w (by decide))) (lq_w (by decide))) (lq_w (by decide))) (lq_w (by decide))⟩
      unfold l6
      simp [pI_I, h.1]
    · rw [if_neg g1, if_neg g1]
      refine ⟨_, rfl, ?_, lq_trans (lq_trans (lq_trans (lq_trans (lq_w (by decide)) (lq_w (by decide))) (lq_w (by decide))) (lq_w (by decide))) (lq_w (by decide))⟩
      unfold l6
      simp [pI_I, h.1]
theorem op_range {n : Nat} (h : n < 256) : ¬ ((jishr (nI n) 4) < 0 ∨ 16 ≤ (jishr (nI n) 4).toNatClampNeg) ∧ ¬ (((jishr (nI n) 3) &&& 3) < 0 ∨ 4 ≤ ((jishr (nI n) 3) &&& 3).toNatClampNeg) := by
  have : ∀ n, n < 256 → ¬ ((jishr (nI n) 4) < 0 ∨ 16 ≤ (jishr (nI n) 4).toNatClampNeg) ∧ ¬ (((jishr (nI n) 3) &&& 3) < 0 ∨ 4 ≤ ((jishr (nI n) 3) &&& 3).toNatClampNeg) := by decide +kernel
  exact this n h
theorem lk_173 (hr : ¬ ((jishr op 4) < 0 ∨ 16 ≤ (jishr op 4).toNatClampNeg)) {v : Int32} (h0 : mI M 2 j 5 = op) (h1 : mI M 2 j 10 = k_mem op) (h2 : mI M 2 j 12 = -1) (h3 : mI M 2 j 13 = 0) (h4 : mI M 2 j 14 = (k_base op).2.2.2.1) (hv : v = (k_base op).2.2.2.2) : ∃ M1, f_Code_look_b173 j M v j = some M1 ∧ l6 M1 j op (kd op) ∧ lq j M M1 := by
  have q : l6 (wI M 2 j 15 v) j op (k_base op) := by
    unfold l6
    simp [pI_I, h0, h1, h2, h3, h4, hv]
    exact ⟨rfl, rfl, rfl⟩
  unfold f_Code_look_b173 f_Code_look_b198 f_Code_look_b229 kd
  rw [st_eq, st_eq, q.1]
  have ar : ∀ x, ∃ M1, bd (f_Code_lookAtArithmetic (wI M 2 j 15 v) j x) (fun M6 => some M6) = some M1 ∧ l6 M1 j op (k_ar op x (k_base op)) ∧ lq j M M1 := by
    intro x
    obtain ⟨M1, a1, a2, a3⟩ := lk_ar (x := x) q hr
    rw [a1, bd_some]
    exact ⟨M1, rfl, a2, lq_trans (lq_w (by decide)) a3⟩
  have ju : ∀ x, ∃ M1, bd (f_Code_lookAtJump (wI M 2 j 15 v) j x) (fun M6 => some M6) = some M1 ∧ l6 M1 j op (k_ju op x (k_base op)) ∧ lq j M M1 := by
    intro x
    obtain ⟨M1, a1, a2, a3⟩ := lk_ju (x := x) q hr
    rw [a1, bd_some]
    exact ⟨M1, rfl, a2, lq_trans (lq_w (by decide)) a3⟩
  by_cases g4 : op &&& 7 = 4
  · rw [if_pos g4, if_pos g4, if_pos g4]; exact ar 1
  rw [if_neg g4, if_neg g4, if_neg g4]
  by_cases g7 : op &&& 7 = 7
  · rw [if_pos g7, if_pos g7]; exact ar 0
  rw [if_neg g7, if_neg g7]
  by_cases g5 : op &&& 7 = 5
  · rw [if_pos g5, if_neg (by rw [g5]; decide), if_pos g5]; exact ju 0
  rw [if_neg g5, if_neg g5]
  by_cases g6 : op &&& 7 = 6
  · rw [if_pos g6, if_pos g6, if_pos g6]; exact ju 1
  rw [if_neg g6, if_neg g6]
  exact ⟨_, rfl, q, lq_w (by decide)⟩
end LK
