/-! PURE: feed. -/
def wb (x : Int32) (j : Nat) : Int32 := (jishr x (24 - 8 * nI j)).toInt8.toInt32
section JFE
variable {M N R S : me_M} {x : Int32} {f : Nat → Int32} {jt tn i : Nat}
theorem sh_3u {k : Nat} (h : k < 32) : ((nI k).toUInt32 &&& Int32.toUInt32 31).toBitVec.toNat % 32 = k := by
  have : ∀ k, k < 32 → ((nI k).toUInt32 &&& Int32.toUInt32 31).toBitVec.toNat % 32 = k := by decide
  exact this k h
theorem sh_3s {k : Nat} (h : k < 32) : ((nI k) &&& 31).toBitVec.smod 32 = BitVec.ofNat 32 k := by
  have : ∀ k, k < 32 → ((nI k) &&& 31).toBitVec.smod 32 = BitVec.ofNat 32 k := by decide
  exact this k h
theorem sh_8 {k : Nat} (h : k ≤ 24) : (jiushr x (nI k)).toInt8.toInt32 = (jishr x (nI k)).toInt8.toInt32 := by
  have e : (jiushr x (nI k)).toInt8 = (jishr x (nI k)).toInt8 := by
    apply Int8.toBitVec_inj.mp
    apply BitVec.eq_of_getLsbD_eq
    intro i hi
    rw [Int32.toBitVec_toInt8, Int32.toBitVec_toInt8, BitVec.getLsbD_signExtend, BitVec.getLsbD_signExtend, if_pos (show i < 32 by omega), if_pos (show i < 32 by omega)]
    unfold jiushr jishr
    rw [UInt32.toBitVec_toInt32, UInt32.toBitVec_shiftRight, BitVec.ushiftRight_eq', BitVec.toNat_umod, Int32.toBitVec_shiftRight, sh_3s (by omega), BitVec.sshiftRight_eq', BitVec.toNat_ofNat, BitVec.getLsbD_sshiftRight, Nat.mod_eq_of_lt (show k < 2 ^ 32 by omega)]
    show ((decide (i < 8)) && (x.toUInt32.toBitVec >>> (((nI k).toUInt32 &&& Int32.toUInt32 31).toBitVec.toNat % 32)).getLsbD i) = _
    rw [sh_3u (by omega), BitVec.getLsbD_ushiftRight]
    have e1 : decide (32 ≤ i) = false := decide_eq_false (by omega)
    rw [e1]
    simp [show k + i < 32 by omega]
  rw [e]
theorem wb_c (h : i < 4) : (jiushr x (nI (24 - 8 * i))).toInt8.toInt32 = wb x i := by
  rw [sh_8 (by omega)]
  unfold wb
  have : ∀ i, i < 4 → nI (24 - 8 * i) = 24 - 8 * nI i := by decide
  rw [this i h]
theorem wb_B : isB (wb x i) := isB_8
theorem wb_n : vp_nar .byte (wb x i) = wb x i := nar_B wb_B
def fw (jt tn : Nat) (f : Nat → Int32) (M : me_M) (i : Nat) (N : me_M) : Prop := gf (fun k j q => (k = 14 ∧ j = jt) ∨ (k = 0 ∧ j = 0 ∧ q = 1)) (fun _ _ _ => False) M N ∧ mI N 0 0 1 = nI (tn + i) ∧ ∀ b, b < tn + i → mI N 14 jt b = if b < tn then mI M 14 jt b else f (b - tn)
theorem fw_s {v : Int32} (h : fw jt tn f M i N) (hv : v = f i) : fw jt tn f M (i + 1) (wI (wI N 14 jt (tn + i) v) 0 0 1 (nI (tn + i) + 1)) := by
  obtain ⟨h1, h2, h3⟩ := h
  refine ⟨gf_trans h1 (gf_trans (gf_I (Or.inl ⟨rfl, rfl⟩)) (gf_I (Or.inr ⟨rfl, rfl, rfl⟩))), ?_, fun b hb => ?_⟩
  · rw [pI_same, nI_s]; rfl
  · rw [wI_j (fun z => absurd z.1 (by decide))]
    by_cases e : b = tn + i
    · rw [e, pI_same, if_neg (by omega), hv, show tn + i - tn = i by omega]
    · rw [pI_place e]; exact h3 b (by omega)
theorem cw_1 {fu k : Nat} {x : Int32} (h : fw jt tn f M i N) (hj : mR M 0 0 0 = some jt) (hz : tn + i < mZ M 14 jt) (hb : tn + i < 70000) (hk : k < 4) (hf : f i = wb x k) : ∃ N1, f_G_write_l3 0 x (fu + 1) N (nI (24 - 8 * k)) = f_G_write_l3 0 x fu N1 (nI (24 - 8 * k) + -8) ∧ fw jt tn f M (i + 1) N1 := by
  have h0 := h
  obtain ⟨h1, h2, h3⟩ := h
  refine ⟨_, ?_, fw_s (v := wb x k) h0 hf.symm⟩
  have e1 : mI (wI N 14 jt (tn + i) (wb x k)) 0 0 1 = nI (tn + i) := by rw [wI_j (fun z => absurd z.1 (by decide))]; exact h2
  rw [f_G_write_l3, if_neg (nI_ps (by omega)), h1.1, hj, bd_some, h2, nI_tn (by omega), h1.2.2.1, gd_pos (show ¬ (nI (tn + i) < 0 ∨ mZ M 14 jt ≤ tn + i) from fun z => z.elim (nI_ps (by omega)) (fun q => by omega)), st_eq, wb_c hk, wb_n, st_eq, e1]
theorem cw_4 {x : Int32} (h : fw jt tn f M i N) (hj : mR M 0 0 0 = some jt) (hz : tn + i + 4 ≤ mZ M 14 jt) (hb : tn + i < 69990) (hf : ∀ k, k < 4 → f (i + k) = wb x k) : ∃ N1, f_G_write N 0 x = some N1 ∧ fw jt tn f M (i + 4) N1 := by
  unfold f_G_write fuel
  obtain ⟨N1, a1, a2⟩ := cw_1 (fu := 4294967295) (k := 0) h hj (by omega) (by omega) (by omega) (hf 0 (by omega))
  obtain ⟨N2, b1, b2⟩ := cw_1 (fu := 4294967294) (k := 1) a2 hj (by omega) (by omega) (by omega) (hf 1 (by omega))
  obtain ⟨N3, c1, c2⟩ := cw_1 (fu := 4294967293) (k := 2) b2 hj (by omega) (by omega) (by omega) (hf 2 (by omega))
  obtain ⟨N4, d1, d2⟩ := cw_1 (fu := 4294967292) (k := 3) c2 hj (by omega) (by omega) (by omega) (hf 3 (by omega))
  refine ⟨N4, ?_, d2⟩
  have q1 : f_G_write_l3 0 x 4294967295 N1 16 = f_G_write_l3 0 x 4294967294 N2 8 := b1
  have q2 : f_G_write_l3 0 x 4294967294 N2 8 = f_G_write_l3 0 x 4294967293 N3 0 := c1
  have q3 : f_G_write_l3 0 x 4294967293 N3 0 = f_G_write_l3 0 x 4294967292 N4 (-8) := d1
  have q0 : f_G_write_l3 0 x 4294967296 N 24 = f_G_write_l3 0 x 4294967295 N1 16 := a1
  have q4 : f_G_write_l3 0 x (4294967291 + 1) N4 (-8) = some N4 := by
    rw [f_G_write_l3, if_pos (by decide)]
  rw [q0, q1, q2, q3]
  exact q4
end JFE
