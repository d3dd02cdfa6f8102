/-! PURE: the class looks at a slot; the reference's decoding. -/
section LL
variable {M : me_M} {j : Nat} {c : Int64}
theorem lk_22 : ∃ M1, f_Code_look_b22 j M c = some M1 ∧ lk M1 j c ∧ mI M1 2 j 3 = mI M 2 j 3 ∧ mI M1 2 j 4 = mI M 2 j 4 ∧ fr (fun k i => k = 2 ∧ i = j) M M1 := by
  obtain ⟨n, hn, hop⟩ := and_255 c.toInt32
  have hop2 : d_op c = nI n := hop
  have rg1 := op_range hn
  rw [← hop2] at rg1
  obtain ⟨A, hA⟩ : ∃ A, A = wI (wI (wI (wI (wI M 2 j 5 (c.toInt32 &&& 255)) 2 j 6 ((jlushr c 8).toInt32 &&& 15)) 2 j 7 ((jlushr c 12).toInt32 &&& 15)) 2 j 8 (jlushr c 16).toInt32.toInt16.toInt32) 2 j 9 (jlushr c 32).toInt32 := ⟨_, rfl⟩
  have fA : fr (fun k i => k = 2 ∧ i = j) M A := by rw [hA]; exact fr_trans (fr_trans (fr_trans (fr_trans (fr_I ⟨rfl, rfl⟩) (fr_I ⟨rfl, rfl⟩)) (fr_I ⟨rfl, rfl⟩)) (fr_I ⟨rfl, rfl⟩)) (fr_I ⟨rfl, rfl⟩)
  have A5 : mI A 2 j 5 = d_op c := by rw [hA]; simp [pI_I, d_op]
  have A6 : mI A 2 j 6 = d_to c := by rw [hA]; simp [pI_I, d_to]
  have A7 : mI A 2 j 7 = d_from c := by rw [hA]; simp [pI_I, d_from]
  have A8 : mI A 2 j 8 = d_off c := by rw [hA]; simp [pI_I, d_off]
  have A9 : mI A 2 j 9 = d_field c := by rw [hA]; simp [pI_I, d_field]
  have A3 : mI A 2 j 3 = mI M 2 j 3 := by rw [hA]; simp [pI_I]
  have A4 : mI A 2 j 4 = mI M 2 j 4 := by rw [hA]; simp [pI_I]
  unfold f_Code_look_b22
  rw [st_eq, st_eq, st_eq, st_eq, st_eq, ← hA, A5, gd_pos rg1.2, st_eq]
  obtain ⟨B, hB⟩ : ∃ B, B = wI A 2 j 11 (fz_s (jishr (d_op c) 3 &&& 3).toNatClampNeg) := ⟨_, rfl⟩
  rw [← hB]
  have B5 : mI B 2 j 5 = d_op c := by rw [hB]; simp [pI_I, A5]
  rw [lk_mem B5, b2_some, st_eq, st_eq, st_eq]
  obtain ⟨C, hC⟩ : ∃ C, C = wI (wI (wI B 2 j 10 (k_mem (d_op c))) 2 j 12 (-1)) 2 j 13 0 := ⟨_, rfl⟩
  rw [← hC]
  have fC : fr (fun k i => k = 2 ∧ i = j) M C := by rw [hC, hB]; exact fr_trans (fr_trans (fr_trans (fr_trans fA (fr_I ⟨rfl, rfl⟩)) (fr_I ⟨rfl, rfl⟩)) (fr_I ⟨rfl, rfl⟩)) (fr_I ⟨rfl, rfl⟩)
  have C10 : mI C 2 j 10 = k_mem (d_op c) := by rw [hC]; simp [pI_I]
  have C11 : mI C 2 j 11 = d_by c := by rw [hC, hB]; simp [pI_I]; rfl
  have C12 : mI C 2 j 12 = -1 := by rw [hC]; simp [pI_I]
  have C13 : mI C 2 j 13 = 0 := by rw [hC]; simp [pI_I]
  have Co : ∀ f, f < 10 → mI C 2 j f = mI A 2 j f := by
    intro f hf
    rw [hC, hB]
    have a1 : ¬ f = 10 := by omega
    have a2 : ¬ f = 11 := by omega
    have a3 : ¬ f = 12 := by omega
    have a4 : ¬ f = 13 := by omega
    simp [pI_I, a1, a2, a3, a4]
  have fin : ∀ v, v = (k_base (d_op c)).2.2.2.1 → ∃ M1, f_Code_look_b140 j C v j = some M1 ∧ lk M1 j c ∧ mI M1 2 j 3 = mI M 2 j 3 ∧ mI M1 2 j 4 = mI M 2 j 4 ∧ fr (fun k i => k = 2 ∧ i = j) M M1 := by
    intro v hv
    unfold f_Code_look_b140 f_Code_look_b168
    rw [st_eq, show mI (wI C 2 j 14 v) 2 j 10 = k_mem (d_op c) from (pI_place (by decide)).trans C10]
    have go : ∀ w, w = (k_base (d_op c)).2.2.2.2 → ∃ M1, f_Code_look_b173 j (wI C 2 j 14 v) w j = some M1 ∧ lk M1 j c ∧ mI M1 2 j 3 = mI M 2 j 3 ∧ mI M1 2 j 4 = mI M 2 j 4 ∧ fr (fun k i => k = 2 ∧ i = j) M M1 := by
      intro w hw
      obtain ⟨M1, a1, a2, a3⟩ := lk_173 (M := wI C 2 j 14 v) (j := j) (op := d_op c) (v := w) rg1.1 ((pI_place (by decide)).trans ((Co 5 (by decide)).trans A5)) ((pI_place (by decide)).trans C10) ((pI_place (by decide)).trans C12) ((pI_place (by decide)).trans C13) (pI_same.trans hv) hw
      have o : ∀ f, f < 10 → mI M1 2 j f = mI A 2 j f := by
        intro f hf
        rw [a3.2.1 f (by omega) (by omega) (by omega) (by omega) (by omega)]
        rw [show mI (wI C 2 j 14 v) 2 j f = mI C 2 j f from pI_place (by omega), Co f hf]
      have o11 : mI M1 2 j 11 = d_by c := by
        rw [a3.2.1 11 (by omega) (by omega) (by omega) (by omega) (by omega)]
        rw [show mI (wI C 2 j 14 v) 2 j 11 = mI C 2 j 11 from pI_place (by omega), C11]
      refine ⟨M1, a1, ⟨(o 5 (by decide)).trans A5, (o 6 (by decide)).trans A6, (o 7 (by decide)).trans A7, (o 8 (by decide)).trans A8, (o 9 (by decide)).trans A9, a2.2.1, o11, a2.2.2.1, a2.2.2.2.1, a2.2.2.2.2.1, a2.2.2.2.2.2⟩, (o 3 (by decide)).trans A3, (o 4 (by decide)).trans A4, fr_trans (fr_trans fC (fr_I ⟨rfl, rfl⟩)) a3.1⟩
    unfold k_base at go
    dsimp only at go
    by_cases g2 : k_mem (d_op c) = 2
    · rw [if_pos g2]; exact go 1 (by rw [if_pos (Or.inl g2)])
    rw [if_neg g2]
    by_cases g3 : k_mem (d_op c) = 3
    · rw [if_pos g3]; exact go 1 (by rw [if_pos (Or.inr (Or.inl g3))])
    rw [if_neg g3]
    by_cases g5 : k_mem (d_op c) = 5
    · rw [if_pos g5]; exact go 1 (by rw [if_pos (Or.inr (Or.inr g5))])
    rw [if_neg g5]
    exact go 0 (by rw [if_neg (fun z => z.elim g2 (fun z => z.elim g3 g5))])
  unfold f_Code_look_b135
  rw [C10]
  unfold k_base at fin
  dsimp only at fin
  by_cases g3 : k_mem (d_op c) = 3
  · rw [if_pos g3]; exact fin 1 (by rw [if_pos (Or.inl g3)])
  rw [if_neg g3]
  by_cases g4 : k_mem (d_op c) = 4
  · rw [if_pos g4]; exact fin 1 (by rw [if_pos (Or.inr (Or.inl g4))])
  rw [if_neg g4]
  by_cases g5 : k_mem (d_op c) = 5
  · rw [if_pos g5]; exact fin 1 (by rw [if_pos (Or.inr (Or.inr g5))])
  rw [if_neg g5]
  exact fin 0 (by rw [if_neg (fun z => z.elim g3 (fun z => z.elim g4 g5))])
/-- the class looks at slot k of a Code -/
theorem lk_look {a k n : Nat} (hR : mR M 2 j 0 = some a) (hZ : mZ M 16 a = 2000) (hn : mI M 2 j 3 = nI n) (hn2 : n ≤ 2000) (hk : k < n) : ∃ M1, f_Code_look M j (nI k) = some M1 ∧ lk M1 j (mL M 16 a k) ∧ mI M1 2 j 3 = mI M 2 j 3 ∧ mI M1 2 j 4 = mI M 2 j 4 ∧ fr (fun k i => k = 2 ∧ i = j) M M1 := by
  unfold f_Code_look
  rw [if_neg (nI_ps (by omega)), hn, if_neg (fun z => by have := (nI_lei (by omega) (by omega)).mp z; omega), hR, bd_some, hZ, gd_pos (ix_ok (by omega) (by decide)), nI_tn (by omega), ← hn]
  exact lk_22
end LL
/-! the reference -/
theorem sh32 {c : Int64} {k : Nat} (h : k ≤ 32) : (jlshr c (nI k)).toInt32 = (jlushr c (nI k)).toInt32 := by
  apply Int32.toBitVec_inj.mp
  rw [Int64.toBitVec_toInt32, Int64.toBitVec_toInt32, BitVec.signExtend_eq_setWidth_of_le _ (by decide), BitVec.signExtend_eq_setWidth_of_le _ (by decide)]
  apply BitVec.eq_of_getLsbD_eq
  intro i hi
  rw [BitVec.getLsbD_setWidth, BitVec.getLsbD_setWidth]
  congr 1
  show bt (jlshr c (nI k)) i = bt (jlushr c (nI k)) i
  rw [bt_shr (by omega) (by omega), bt_ush (by omega), if_pos (by omega)]
section RD
variable {c : Int64}
theorem r_op : f_M_opOf c = some (d_op c) := congrArg some (Int64.toInt32_and c 255)
theorem r_to : f_M_toOf c = some (d_to c) := by
  unfold f_M_toOf d_to
  rw [Int64.toInt32_and, show (8 : Int32) = nI 8 from rfl, sh32 (by decide)]
  rfl
theorem r_from : f_M_fromOf c = some (d_from c) := by
  unfold f_M_fromOf d_from
  rw [Int64.toInt32_and, show (12 : Int32) = nI 12 from rfl, sh32 (by decide)]
  rfl
theorem r_off : f_M_offsetOf c = some (d_off c) := by
  unfold f_M_offsetOf d_off
  rw [show (16 : Int32) = nI 16 from rfl, sh32 (by decide)]
theorem r_field : f_M_fieldOf c = some (d_field c) := by
  unfold f_M_fieldOf d_field
  rw [show (32 : Int32) = nI 32 from rfl, sh32 (by decide)]
/-- the reference's name of an instruction -/
def k_ri (op : Int32) : Int32 := if (kd op).1 = 6 then (if (kd op).2.1 = 11 then 7 else if (kd op).2.1 = 14 then 8 else if (kd op).2.1 = 13 then 9 else 6) else if (kd op).1 = 7 then 10 else if (kd op).1 = 8 then 11 else if (kd op).1 = 9 then 12 else if (kd op).1 = 10 then 13 else (kd op).1
theorem t_in : ∀ n, n < 256 → f_M_instruction (nI n) = some (k_ri (nI n)) ∧ f_M_widthOf (nI n) = some (k_by (nI n)) ∧ f_M_hasFrom (nI n) = some (k_fr (nI n)) := by decide +kernel
theorem t_nar : ∀ n, n < 256 → ((kd (nI n)).1 = 8 ∨ ((kd (nI n)).1 = 6 ∧ ¬ (kd (nI n)).2.1 = 13 ∧ ¬ (kd (nI n)).2.1 = 14)) → f_M_isNarrow (nI n) = some (kd (nI n)).2.2.1 := by decide +kernel
theorem t_rf : ∀ n, n < 256 → ((kd (nI n)).1 = 8 ∨ ((kd (nI n)).1 = 6 ∧ ¬ (kd (nI n)).2.1 = 13)) → k_fr (nI n) = (kd (nI n)).2.2.2.2 := by decide +kernel
theorem t_opn1 : ∀ n, n < 256 → k_ri (nI n) = 6 → f_M_operationOf (jishr (nI n) 4) = some (kd (nI n)).2.1 := by decide +kernel
theorem t_opn2 : ∀ n, n < 256 → k_ri (nI n) = 6 → (jishr (nI n) 4 = 11 ↔ (kd (nI n)).2.1 = 12) := by decide +kernel
theorem t_opn3 : ∀ n, n < 256 → k_ri (nI n) = 6 → (jishr (nI n) 4 ≤ 1 ↔ (kd (nI n)).2.1 ≤ 1) := by decide +kernel
theorem t_opn4 : ∀ n, n < 256 → k_ri (nI n) = 6 → (jishr (nI n) 4 = 1 ↔ (kd (nI n)).2.1 = 1) := by decide +kernel
theorem t_rel1 : ∀ n, n < 256 → (kd (nI n)).1 = 8 → f_M_relationOf (jishr (nI n) 4) = some (kd (nI n)).2.1 := by decide +kernel
theorem t_rel2 : ∀ n, n < 256 → (kd (nI n)).1 = 8 → (kd (nI n)).2.1 ∈ ([0, 1, 2, 3, 4, 5, 6, 7, 8, 9, 10] : List Int32) := by decide +kernel
theorem t_rel3 : ∀ n, n < 256 → (kd (nI n)).1 = 8 → (kd (nI n)).2.2.2.1 = 1 := by decide +kernel
theorem t_ar1 : ∀ n, n < 256 → (kd (nI n)).1 = 6 → (kd (nI n)).2.1 ∈ ([0, 1, 2, 3, 4, 5, 6, 7, 8, 9, 10, 11, 12, 13, 14] : List Int32) := by decide +kernel
theorem t_ar2 : ∀ n, n < 256 → (kd (nI n)).1 = 6 → (kd (nI n)).2.2.2.1 = if (kd (nI n)).2.1 = 12 then 0 else 1 := by decide +kernel
theorem t_ar3 : ∀ n, n < 256 → (kd (nI n)).1 = 6 → (kd (nI n)).2.1 = 13 → (kd (nI n)).2.2.2.2 = 0 ∧ (kd (nI n)).2.2.1 = 0 := by decide +kernel
theorem t_ar4 : ∀ n, n < 256 → (kd (nI n)).1 = 6 → (kd (nI n)).2.1 = 14 → (kd (nI n)).2.2.2.2 = 0 ∧ (kd (nI n)).2.2.1 = 0 := by decide +kernel
theorem t_ar5 : ∀ n, n < 256 → (kd (nI n)).1 = 6 → (kd (nI n)).2.1 = 11 → (kd (nI n)).2.2.2.2 = 0 := by decide +kernel
theorem t_by : ∀ n, n < 256 → k_by (nI n) ∈ ([1, 2, 4, 8] : List Int32) := by decide +kernel
theorem t_fam : ∀ n, n < 256 → (kd (nI n)).1 ∈ ([0, 1, 2, 3, 4, 5, 6, 7, 8, 9, 10] : List Int32) := by decide +kernel
theorem t_m1 : ∀ n, n < 256 → (kd (nI n)).1 ∈ ([1, 7, 9, 10] : List Int32) → (kd (nI n)).2.2.2.1 = 0 ∧ (kd (nI n)).2.2.2.2 = 0 := by decide +kernel
theorem t_m2 : ∀ n, n < 256 → (kd (nI n)).1 = 2 → (kd (nI n)).2.2.2.1 = 0 ∧ (kd (nI n)).2.2.2.2 = 1 := by decide +kernel
theorem t_m3 : ∀ n, n < 256 → (kd (nI n)).1 ∈ ([3, 5] : List Int32) → (kd (nI n)).2.2.2.1 = 1 ∧ (kd (nI n)).2.2.2.2 = 1 := by decide +kernel
theorem t_m4 : ∀ n, n < 256 → (kd (nI n)).1 = 4 → (kd (nI n)).2.2.2.1 = 1 ∧ (kd (nI n)).2.2.2.2 = 0 := by decide +kernel
theorem t_01 : ∀ n, n < 256 → ((kd (nI n)).2.2.1 = 0 ∨ (kd (nI n)).2.2.1 = 1) ∧ ((kd (nI n)).2.2.2.1 = 0 ∨ (kd (nI n)).2.2.2.1 = 1) ∧ ((kd (nI n)).2.2.2.2 = 0 ∨ (kd (nI n)).2.2.2.2 = 1) := by decide +kernel
end RD
