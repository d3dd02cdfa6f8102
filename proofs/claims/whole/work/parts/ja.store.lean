/-! PURE: a new store of the class. -/
section JST
variable {M N : me_M} {nm h e L0 L1 L2 : Nat} {t k v z : Int32}
def sth (t : Int32) : Int32 := if t = 0 then 1 else 0
theorem s76 (hr : mR M 12 nm 6 = some h) (ht : mI M 12 nm 0 = t) (hz : mZ M 15 h = e) (he : e ≤ 64) : ∀ (k i fu : Nat) (N : me_M), i + k = e → k < fu → gf (fun k j _ => k = 15 ∧ j = h) (fun _ _ _ => False) M N → (∀ b, b < i → mI N 15 h b = sth t) → ∃ N2, f_Store_init_l76 nm (nI e) fu N (nI i) = some N2 ∧ gf (fun k j _ => k = 15 ∧ j = h) (fun _ _ _ => False) M N2 ∧ ∀ b, b < e → mI N2 15 h b = sth t := by
  intro k
  induction k with
  | zero =>
    intro i fu N e1 hf g1 g2
    obtain ⟨fu, rfl⟩ : ∃ q, fu = q + 1 := ⟨fu - 1, by omega⟩
    have : i = e := by omega
    rw [this] at g2 ⊢
    refine ⟨N, ?_, g1, g2⟩
    rw [f_Store_init_l76, if_pos ((nI_lei (by omega) (by omega)).mpr (Nat.le_refl _))]
  | succ k ih =>
    intro i fu N e1 hf g1 g2
    obtain ⟨fu, rfl⟩ : ∃ q, fu = q + 1 := ⟨fu - 1, by omega⟩
    have et : mI N 12 nm 0 = t := by rw [g1.2.2.2.1 12 nm 0 (fun z => absurd z.1 (by decide))]; exact ht
    obtain ⟨N2, n1, n2⟩ := ih (i + 1) fu (wI N 15 h i (sth t)) (by omega) (by omega) (gf_trans g1 (gf_I ⟨rfl, rfl⟩)) (fun b hb => by
      by_cases q : b = i
      · rw [q]; exact pI_same
      · rw [pI_place q]; exact g2 b (by omega))
    refine ⟨N2, ?_, n2⟩
    rw [← n1, f_Store_init_l76, if_neg (fun z => by have := (nI_lei (by omega) (by omega)).mp z; omega), g1.1, hr, bd_some, et, nI_tn (by omega), g1.2.2.1, hz, nI_s]
    unfold sth
    by_cases q : t = 0
    · rw [if_pos q, if_pos q, gd_pos (ix_t (by omega) (by omega)), st_eq]; rfl
    · rw [if_neg q, if_neg q, gd_pos (ix_t (by omega) (by omega)), st_eq]; rfl
def snA (M : me_M) (nm : Nat) (t k v z : Int32) : me_M := wI (wI (wI (wI (nO M 12) 12 nm 0 t) 12 nm 1 k) 12 nm 2 v) 12 nm 3 z
def snB (M : me_M) (nm : Nat) (t k v z : Int32) (L0 : Nat) : me_M := wR (nA (snA M nm t k v z) 14 L0) 12 nm 4 (some (mN M 14))
def snC (M : me_M) (nm : Nat) (t k v z : Int32) (L0 L1 : Nat) : me_M := wR (nA (snB M nm t k v z L0) 14 L1) 12 nm 5 (some (mN M 14 + 1))
def snD (M : me_M) (nm : Nat) (t k v z : Int32) (L0 L1 L2 : Nat) : me_M := wR (nA (snC M nm t k v z L0 L1) 15 L2) 12 nm 6 (some (mN M 15))
theorem snA_N : mN (snA M nm t k v z) = me_N1 (mN M) 12 := rfl
theorem snB_N : mN (snB M nm t k v z L0) = me_N1 (me_N1 (mN M) 12) 14 := rfl
theorem snC_N : mN (snC M nm t k v z L0 L1) = me_N1 (me_N1 (me_N1 (mN M) 12) 14) 14 := rfl
theorem snD_N : mN (snD M nm t k v z L0 L1 L2) = me_N1 (me_N1 (me_N1 (me_N1 (mN M) 12) 14) 14) 15 := rfl
theorem snA_14 : mN (snA M nm t k v z) 14 = mN M 14 := rfl
theorem snB_14 : mN (snB M nm t k v z L0) 14 = mN M 14 + 1 := rfl
theorem snC_15 : mN (snC M nm t k v z L0 L1) 15 = mN M 15 := rfl
theorem nA_I0 {k n f : Nat} : mI (nA M k n) k (mN M k) f = 0 := if_pos ⟨rfl, rfl⟩
theorem snD_I {a b : Nat} (hn : mN M 12 = nm) (h1 : ¬ (a = 12 ∧ b = nm)) (h2 : ¬ (a = 14 ∧ mN M 14 ≤ b)) (h3 : ¬ (a = 15 ∧ mN M 15 ≤ b)) : mI (snD M nm t k v z L0 L1 L2) a b = mI M a b := by
  unfold snD
  rw [pI_R, nA_I (by rw [snC_15]; omega)]
  unfold snC
  rw [pI_R, nA_I (by rw [snB_14]; omega)]
  unfold snB
  rw [pI_R, nA_I (by rw [snA_14]; omega)]
  unfold snA
  rw [wI_o h1, wI_o h1, wI_o h1, wI_o h1, nO_I (by rw [hn]; exact h1)]
theorem snD_12 {f : Nat} : mI (snD M nm t k v z L0 L1 L2) 12 nm f = mI (snA M nm t k v z) 12 nm f := by
  unfold snD
  rw [pI_R, nA_I (by omega)]
  unfold snC
  rw [pI_R, nA_I (by omega)]
  unfold snB
  rw [pI_R, nA_I (by omega)]
theorem snA_0 : mI (snA M nm t k v z) 12 nm 0 = t := by
  unfold snA
  rw [pI_place (by decide), pI_place (by decide), pI_place (by decide), pI_same]
theorem snA_1 : mI (snA M nm t k v z) 12 nm 1 = k := by
  unfold snA
  rw [pI_place (by decide), pI_place (by decide), pI_same]
theorem snA_2 : mI (snA M nm t k v z) 12 nm 2 = v := by
  unfold snA
  rw [pI_place (by decide), pI_same]
theorem snA_3 : mI (snA M nm t k v z) 12 nm 3 = z := by
  unfold snA
  rw [pI_same]
theorem snD_v {f : Nat} : mI (snD M nm t k v z L0 L1 L2) 14 (mN M 14 + 1) f = 0 := by
  unfold snD
  rw [pI_R, nA_I (by omega)]
  unfold snC
  rw [pI_R, ← snB_14 (M := M) (nm := nm) (t := t) (k := k) (v := v) (z := z) (L0 := L0)]
  exact nA_I0
theorem snD_L {a b : Nat} (h1 : ¬ a = 12) (h2 : ¬ a = 14) (h3 : ¬ a = 15) : mL (snD M nm t k v z L0 L1 L2) a b = mL M a b := by
  unfold snD
  rw [pL_R, nA_L (by omega)]
  unfold snC
  rw [pL_R, nA_L (by omega)]
  unfold snB
  rw [pL_R, nA_L (by omega)]
  unfold snA
  rw [pL_I, pL_I, pL_I, pL_I, nO_L (by omega)]
theorem snD_Z {a b : Nat} (h2 : ¬ (a = 14 ∧ mN M 14 ≤ b)) (h3 : ¬ (a = 15 ∧ mN M 15 ≤ b)) : mZ (snD M nm t k v z L0 L1 L2) a b = mZ M a b := by
  unfold snD
  rw [pZ_R, nA_Z (by rw [snC_15]; omega)]
  unfold snC
  rw [pZ_R, nA_Z (by rw [snB_14]; omega)]
  unfold snB
  rw [pZ_R, nA_Z (by rw [snA_14]; omega)]
  rfl
theorem snD_Zk : mZ (snD M nm t k v z L0 L1 L2) 14 (mN M 14) = L0 := by
  unfold snD
  rw [pZ_R, nA_Z (by rw [snC_15]; omega)]
  unfold snC
  rw [pZ_R, nA_Z (by rw [snB_14]; omega)]
  unfold snB
  rw [pZ_R, ← snA_14 (M := M) (nm := nm) (t := t) (k := k) (v := v) (z := z)]
  exact nA_Z0
theorem snD_Zv : mZ (snD M nm t k v z L0 L1 L2) 14 (mN M 14 + 1) = L1 := by
  unfold snD
  rw [pZ_R, nA_Z (by rw [snC_15]; omega)]
  unfold snC
  rw [pZ_R, ← snB_14 (M := M) (nm := nm) (t := t) (k := k) (v := v) (z := z) (L0 := L0)]
  exact nA_Z0
theorem snD_Zh : mZ (snD M nm t k v z L0 L1 L2) 15 (mN M 15) = L2 := by
  unfold snD
  rw [pZ_R, ← snC_15 (M := M) (nm := nm) (t := t) (k := k) (v := v) (z := z) (L0 := L0) (L1 := L1)]
  exact nA_Z0
theorem wR_o {a b f c d q : Nat} {r : Option Nat} (h : ¬ (c = a ∧ d = b)) : mR (wR M a b f r) c d q = mR M c d q := by rw [pR_R, if_neg (fun z => h ⟨z.1, z.2.1⟩)]
theorem wR_p {a b f q : Nat} {r : Option Nat} (h : ¬ q = f) : mR (wR M a b f r) a b q = mR M a b q := by rw [pR_R, if_neg (fun z => h z.2.2)]
theorem wR_s {a b f : Nat} {r : Option Nat} : mR (wR M a b f r) a b f = r := by rw [pR_R, if_pos ⟨rfl, rfl, rfl⟩]
theorem snD_R {a b f : Nat} (hn : mN M 12 = nm) (h1 : ¬ (a = 12 ∧ b = nm)) (h2 : ¬ a = 14) (h3 : ¬ a = 15) : mR (snD M nm t k v z L0 L1 L2) a b f = mR M a b f := by
  unfold snD
  rw [wR_o h1, nA_R (by omega)]
  unfold snC
  rw [wR_o h1, nA_R (by omega)]
  unfold snB
  rw [wR_o h1, nA_R (by omega)]
  unfold snA
  rw [pR_I, pR_I, pR_I, pR_I, nO_R (by rw [hn]; exact h1)]
theorem snD_r6 : mR (snD M nm t k v z L0 L1 L2) 12 nm 6 = some (mN M 15) := wR_s
theorem snD_r5 : mR (snD M nm t k v z L0 L1 L2) 12 nm 5 = some (mN M 14 + 1) := by
  unfold snD
  rw [wR_p (by decide), nA_R (by omega)]
  exact wR_s
theorem snD_r4 : mR (snD M nm t k v z L0 L1 L2) 12 nm 4 = some (mN M 14) := by
  unfold snD
  rw [wR_p (by decide), nA_R (by omega)]
  unfold snC
  rw [wR_p (by decide), nA_R (by omega)]
  exact wR_s
theorem fit_ok {F : Nat → Nat} {k : Nat} (h1 : me_cN F ≤ 99000) (h2 : me_sN F ≤ 2900000) (hk : me_sc k ≤ 65536) : me_cN F + 1 ≤ me_CL ∧ me_sN F + me_sc k ≤ me_SL := by
  unfold me_CL me_SL
  omega
/-- the constructor -/
theorem c_store {a b c : Nat} (f1 : me_cN (mN M) ≤ 90000) (f2 : me_sN (mN M) ≤ 2500000) (ht : t = 0 ∨ t = 1) (ha : a ≤ 16) (hb : b ≤ 64) (hc : c ≤ 64) (h0 : L0 = if t = 1 then c * a else 0) : me_fit M 12 ∧ ∃ N, f_Store_init (nO M 12) nm t (nI a) (nI b) (nI c) = some N ∧ gf (fun k j _ => k = 15 ∧ j = mN M 15) (fun _ _ _ => False) (snD M nm t (nI a) (nI b) (nI c) L0 (c * b) c) N ∧ ∀ i, i < c → mI N 15 (mN M 15) i = sth t := by
  have s12 : me_sc 12 ≤ 100 := sc_t.2.2.2.2.2.2.2.2.2.2.2.2.1
  have s14 : me_sc 14 = 65536 := by decide
  have s15 : me_sc 15 = 2001 := by decide
  have ca : c * a ≤ 1024 := Nat.mul_le_mul hc ha
  have cb : c * b ≤ 4096 := Nat.mul_le_mul hc hb
  refine ⟨fit_ok (by omega) (by omega) (by omega), ?_⟩
  have fA : me_fit (snA M nm t (nI a) (nI b) (nI c)) 14 := by
    refine fit_ok ?_ ?_ (by omega)
    · rw [snA_N, me_cN1 (by decide)]; omega
    · rw [snA_N, me_sN1 (by decide)]; omega
  have fB : me_fit (snB M nm t (nI a) (nI b) (nI c) L0) 14 := by
    refine fit_ok ?_ ?_ (by omega)
    · rw [snB_N, me_cN1 (by decide), me_cN1 (by decide)]; omega
    · rw [snB_N, me_sN1 (by decide), me_sN1 (by decide)]; omega
  have fC : me_fit (snC M nm t (nI a) (nI b) (nI c) L0 (c * b)) 15 := by
    refine fit_ok ?_ ?_ (by omega)
    · rw [snC_N, me_cN1 (by decide), me_cN1 (by decide), me_cN1 (by decide)]; omega
    · rw [snC_N, me_sN1 (by decide), me_sN1 (by decide), me_sN1 (by decide)]; omega
  have l0 : L0 ≤ 1024 := by
    rw [h0]
    by_cases q : t = 1
    · rw [if_pos q]; exact ca
    · rw [if_neg q]; omega
  have b50 : f_Store_init_b50 nm (nI b) (nI c) (snA M nm t (nI a) (nI b) (nI c)) (nI L0) nm = f_Store_init_l76 nm (nI c) fuel (snD M nm t (nI a) (nI b) (nI c) L0 (c * b) c) 0 := by
    unfold f_Store_init_b50
    rw [nI_tn (by omega), gd_pos ⟨nI_ps (by omega), by omega, fA⟩, st_eq, snA_14, st_eq, mul_nI, nI_tn (by omega)]
    rw [show wR (nA (snA M nm t (nI a) (nI b) (nI c)) 14 L0) 12 nm 4 (some (mN M 14)) = snB M nm t (nI a) (nI b) (nI c) L0 from rfl, gd_pos ⟨nI_ps (by omega), by omega, fB⟩, st_eq, snB_14, st_eq, nI_tn (by omega)]
    rw [show wR (nA (snB M nm t (nI a) (nI b) (nI c) L0) 14 (c * b)) 12 nm 5 (some (mN M 14 + 1)) = snC M nm t (nI a) (nI b) (nI c) L0 (c * b) from rfl, gd_pos ⟨nI_ps (by omega), by omega, fC⟩, st_eq, snC_15, st_eq]
    rfl
  obtain ⟨N, n1, n2, n3⟩ := s76 (M := snD M nm t (nI a) (nI b) (nI c) L0 (c * b) c) (t := t) (e := c) snD_r6 (by rw [snD_12]; exact snA_0) snD_Zh hc c 0 fuel _ (by omega) (by unfold fuel; omega) gf_refl (fun b hb => by omega)
  refine ⟨N, ?_, n2, n3⟩
  have n4 := b50.trans n1
  unfold f_Store_init
  rcases ht with q | q
  · rw [if_neg (by rw [q]; decide)]
    unfold f_Store_init_b15
    rw [st_eq, st_eq, st_eq, st_eq]
    have e0 : wI (wI (wI (wI (nO M 12) 12 nm 0 0) 12 nm 1 (nI a)) 12 nm 2 (nI b)) 12 nm 3 (nI c) = snA M nm t (nI a) (nI b) (nI c) := by rw [q]; rfl
    rw [e0, snA_0, if_pos q]
    rw [h0, if_neg (by rw [q]; decide)] at n4
    exact n4
  · rw [if_pos q]
    unfold f_Store_init_b15
    rw [st_eq, st_eq, st_eq, st_eq]
    have e0 : wI (wI (wI (wI (nO M 12) 12 nm 0 1) 12 nm 1 (nI a)) 12 nm 2 (nI b)) 12 nm 3 (nI c) = snA M nm t (nI a) (nI b) (nI c) := by rw [q]; rfl
    rw [e0, snA_0, if_neg (by rw [q]; decide), mul_nI]
    rw [h0, if_pos q] at n4
    exact n4
end JST
