/-! PURE: loading and storing is sound. -/
section GC
variable {nm Z : Nat} {en : Nat → Nat} {vb : Int32 → Int32} {σ : sT} {T : tyT} {nu : Int32 → Int64} {mu : Int32 → Prop} {x p : sC} {t : tyV} {c : Int64} {d i : Nat}
theorem by_lt {z : Int32} : un (z &&& 255).toInt64 < 256 := by
  have hb : (z &&& 255).toBitVec.toNat < 256 := by
    rw [Int32.toBitVec_and, BitVec.toNat_and]
    exact Nat.lt_of_le_of_lt Nat.and_le_right (by decide)
  have e : (z &&& 255) = nI (z &&& 255).toBitVec.toNat := Int32.toBitVec_inj.mp (BitVec.eq_of_toNat_eq (by
    show (z &&& 255).toBitVec.toNat = (BitVec.ofNat 32 (z &&& 255).toBitVec.toNat).toNat
    rw [BitVec.toNat_ofNat, Nat.mod_eq_of_lt]
    exact Nat.lt_of_lt_of_le hb (by decide)))
  rw [e]
  generalize (z &&& 255).toBitVec.toNat = k at hb
  have : ∀ k, k < 256 → un (nI k).toInt64 < 256 := by decide +kernel
  exact this k hb
theorem yn_lt {f : Nat → Int32} {a : Nat} : ∀ (n k : Nat) (v : Int64), n + k ≤ 8 → un v < 2 ^ (8 * k) → un (yn f a n v) < 2 ^ (8 * (n + k)) := by
  intro n
  induction n with
  | zero => intro k v _ h; rw [Nat.zero_add]; exact h
  | succ n ih =>
    intro k v hk h
    rw [yn, show n + 1 + k = n + (k + 1) by omega]
    refine ih (k + 1) _ (by omega) ?_
    rw [un_or]
    have e : (2 : Nat) ^ (8 * (k + 1)) = 2 ^ (8 * k) * 256 := by rw [show 8 * (k + 1) = 8 * k + 8 by omega, Nat.pow_add]
    refine Nat.or_lt_two_pow ?_ ?_
    · rw [show (8 : Int32) = nI 8 from rfl, un_shl (by decide)]
      refine Nat.lt_of_le_of_lt (Nat.mod_le _ _) ?_
      rw [e]
      exact Nat.mul_lt_mul_of_pos_right h (by decide)
    · refine Nat.lt_of_lt_of_le by_lt ?_
      rw [e]
      exact Nat.le_mul_of_pos_left _ (Nat.two_pow_pos _)
theorem rd_gN {v : Int64} (h : un v < 2 ^ (8 * d_nn c)) : gN (fn_rd (d_by c)) v := by
  have key : ∀ {m : Int64}, un v ≤ un m → gN (fn_fin (0, -1, 0, m, -9223372036854775808, 9223372036854775807)) v := fun z => gN_fin (gN_u z_m1 m1_z (u_ge v) z)
  unfold fn_rd
  unfold d_nn at h
  rcases by_c c with e | e | e | e
  · rw [e] at h ⊢
    rw [if_neg (by decide)]
    exact key (by rw [show un (jlshl 1 (8 * 1) - 1) = 255 by decide]; have : un v < 256 := h; omega)
  · rw [e] at h ⊢
    rw [if_neg (by decide)]
    exact key (by rw [show un (jlshl 1 (8 * 2) - 1) = 65535 by decide]; have : un v < 65536 := h; omega)
  · rw [e] at h ⊢
    rw [if_neg (by decide)]
    exact key (by rw [show un (jlshl 1 (8 * 4) - 1) = 4294967295 by decide]; have : un v < 4294967296 := h; omega)
  · rw [e, if_pos (by decide)]
    exact any_gN
theorem nn_c (c : Int64) : (d_by c = 1 ∧ d_nn c = 1) ∨ (d_by c = 2 ∧ d_nn c = 2) ∨ (d_by c = 4 ∧ d_nn c = 4) ∨ (d_by c = 8 ∧ d_nn c = 8) := by
  unfold d_nn
  rcases by_c c with e | e | e | e <;> rw [e] <;> decide
theorem nn_by (c : Int64) : (d_by c).toInt = (d_nn c : Int) ∧ 1 ≤ d_nn c ∧ d_nn c ≤ 8 := by
  rcases nn_c c with ⟨e, f⟩ | ⟨e, f⟩ | ⟨e, f⟩ | ⟨e, f⟩ <;> rw [e, f] <;> decide
theorem get_gN : gN (fn_rd (d_by c)) (ty_get c T t) := by
  have := nn_by c
  refine rd_gN ?_
  have := yn_lt (f := ty_ar T t) (a := ty_ad t (ty_pl c t)) (d_nn c) 0 0 (by omega) (by decide)
  exact this
theorem st_tab : ∀ a, a < 512 → (nI a - 512) &&& 7 = nI (a % 8) ∧ sl (nI a - 512) = 74 - a / 8 ∧ (jirem (nI a - 512) 2 = 0 → a % 2 = 0) ∧ (jirem (nI a - 512) 4 = 0 → a % 4 = 0) ∧ (jirem (nI a - 512) 8 = 0 → a % 8 = 0) := by decide +kernel
theorem bm_tab : ∀ r, r < 8 → ∀ b, b < 32 → ib (jishl (jishl 1 1 - 1) (nI r)) b = decide (r ≤ b ∧ b < r + 1) ∧ (r % 2 = 0 → ib (jishl (jishl 1 2 - 1) (nI r)) b = decide (r ≤ b ∧ b < r + 2)) ∧ (r % 4 = 0 → ib (jishl (jishl 1 4 - 1) (nI r)) b = decide (r ≤ b ∧ b < r + 4)) ∧ (r % 8 = 0 → ib (jishl (jishl 1 8 - 1) (nI r)) b = decide (r ≤ b ∧ b < r + 8)) := by decide +kernel
theorem bm_of {pl : Int32} (h1 : -512 ≤ pl.toInt) (h2 : pl.toInt ≤ -1) (hr : jirem pl (d_by c) = 0) : ∃ a : Nat, a < 512 ∧ pl.toInt = (a : Int) - 512 ∧ sl pl = 74 - a / 8 ∧ a % 8 + d_nn c ≤ 8 ∧ ∀ b, b < 32 → ib (d_bm c pl) b = decide (a % 8 ≤ b ∧ b < a % 8 + d_nn c) := by
  obtain ⟨a, ha⟩ : ∃ a : Nat, (a : Int) = pl.toInt + 512 := ⟨(pl.toInt + 512).toNat, by omega⟩
  have ha5 : a < 512 := by omega
  have e : pl = nI a - 512 := Int32.toInt_inj.mp (by
    have tab : ∀ a, a < 512 → (nI a - 512).toInt = (a : Int) - 512 := by decide +kernel
    rw [tab a ha5]
    omega)
  obtain ⟨t1, t2, t3, t4, t5⟩ := st_tab a ha5
  refine ⟨a, ha5, by omega, by rw [e]; exact t2, ?_⟩
  unfold d_bm
  rw [e, t1]
  rw [e] at hr
  have r8 : a % 8 < 8 := Nat.mod_lt _ (by decide)
  rcases nn_c c with ⟨f, g⟩ | ⟨f, g⟩ | ⟨f, g⟩ | ⟨f, g⟩
  · rw [f, g]
    exact ⟨by omega, fun b hb => (bm_tab _ r8 b hb).1⟩
  · rw [f] at hr
    rw [f, g]
    have := t3 hr
    exact ⟨by omega, fun b hb => (bm_tab _ r8 b hb).2.1 (by omega)⟩
  · rw [f] at hr
    rw [f, g]
    have := t4 hr
    exact ⟨by omega, fun b hb => (bm_tab _ r8 b hb).2.2.1 (by omega)⟩
  · rw [f] at hr
    rw [f, g]
    have := t5 hr
    exact ⟨by omega, fun b hb => (bm_tab _ r8 b hb).2.2.2 (by omega)⟩
theorem i32_ext {a b : Int32} (h : ∀ i, i < 32 → ib a i = ib b i) : a = b := Int32.toBitVec_inj.mp (BitVec.eq_of_getLsbD_eq (fun i hi => h i hi))
theorem ib_and {a b : Int32} {i : Nat} : ib (a &&& b) i = (ib a i && ib b i) := by unfold ib; rw [Int32.toBitVec_and]; exact BitVec.getLsbD_and ..
theorem ib_or {a b : Int32} {i : Nat} : ib (a ||| b) i = (ib a i || ib b i) := by unfold ib; rw [Int32.toBitVec_or]; exact BitVec.getLsbD_or ..
theorem able_b {w m : Int32} (h : w &&& m = m) {b : Nat} (g : ib m b = true) : ib w b = true := by
  rw [← h, ib_and, Bool.and_eq_true] at g
  exact g.1
theorem able_ok {w m : Int32} (hc : gm_c nm en Z nu mu x t) (hs : gm_s x t w) (hm : ∀ b, b < 32 → ib m b = true → b < 8) {b0 : Nat} (hb : b0 < 8) (h0 : ib m b0 = true) (h : c_able x m) : t.1 = 1 ∨ (t.1 = 0 ∧ w &&& m = m) := by
  rcases h with k | ⟨k, g⟩
  · exact Or.inl (gm_k1 hc k)
  · rcases hs k b0 hb (able_b g h0) with z | z
    · refine Or.inr ⟨z.1, i32_ext (fun i hi => ?_)⟩
      rw [ib_and]
      cases e : ib m i
      · rw [Bool.and_false]
      · rcases hs k i (hm i hi e) (able_b g e) with y | y
        · rw [y.2]; rfl
        · rw [z.1] at y; exact absurd y (by decide)
    · exact Or.inl z
/-- a slot is given -/
theorem gam_sl (h : gam nm en σ T nu mu) (hi : 11 ≤ i) {w : Int32} {B : Nat → Int32} (g : gm_c nm en (uZ (tyW T)) nu mu x t) (gs : gm_s x t w) : gam nm en (up σ i x) (fup (tyC T) i t, B, fup (tyM T) i w, tyW T) nu mu := by
  obtain ⟨h1, h2, h3, h4⟩ := h
  refine ⟨h1, h2, fun j hj => ?_, fun j g1 hj => ?_⟩
  · show gm_c nm en (uZ (tyW T)) nu mu (if j = i then x else σ j) (if j = i then t else tyC T j)
    by_cases e : j = i
    · rw [if_pos e, if_pos e]; exact g
    · rw [if_neg e, if_neg e]; exact h3 j hj
  · show gm_s (if j = i then x else σ j) (if j = i then t else tyC T j) (if j = i then w else tyM T j)
    by_cases e : j = i
    · rw [if_pos e, if_pos e, if_pos e]; exact gs
    · rw [if_neg e, if_neg e, if_neg e]; exact h4 j g1 hj
end GC
