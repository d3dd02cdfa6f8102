/-! PURE: a typed machine's state is one that an abstract state tells of. -/
/-- nu: an identity's place in the packet; mu: whether it was found -/
def gm_c (nm : Nat) (en : Nat → Nat) (Z : Nat) (nu : Int32 → Int64) (mu : Int32 → Prop) (x : sC) (t : tyV) : Prop :=
  (cK x = 1 → t = ty_n t.2.1 ∧ gN (cX x) t.2.1) ∧ (cK x = 2 → t.1 = 2 ∧ t.2.1 = (cPl x).toInt64) ∧ (cK x = 3 → t.1 = 3 ∧ t.2.1 = (cPl x).toInt64)
  ∧ (cK x = 4 → t.1 = 4 ∧ t.2.1 = nu (cI x) + (cPl x).toInt64 ∧ gN (cX x) (nu (cI x)) ∧ (0 < (cR x).toInt → (un (nu (cI x)) : Int) + (cR x).toInt ≤ (Z : Int)))
  ∧ (cK x = 5 → t.1 = 5 ∧ t.2.1 = (nI Z).toInt64) ∧ (cK x = 6 → t.1 = 6 ∧ cM x = nI t.2.2.1 ∧ t.2.2.1 < nm)
  ∧ (cK x = 7 → t.1 = 7 ∧ cM x = nI t.2.2.1 ∧ t.2.2.1 < nm ∧ t.2.2.2 < en t.2.2.1 ∧ ∃ u, gN (cX x) u ∧ t.2.1 = u + (cPl x).toInt64)
  ∧ (cK x = 8 → (mu (cI x) ∧ t.1 = 7 ∧ cM x = nI t.2.2.1 ∧ t.2.2.1 < nm ∧ t.2.2.2 < en t.2.2.1 ∧ t.2.1 = 0) ∨ (¬ mu (cI x) ∧ t = ty_n 0))
  ∧ (¬ cK x = 0 → ¬ t.1 = 0)
/-- a slot of the stack that holds bytes -/
abbrev ib (v : Int32) (b : Nat) : Bool := v.toBitVec.getLsbD b
def gm_s (x : sC) (t : tyV) (w : Int32) : Prop := cK x = 0 → ∀ b, b < 8 → ib (cW x) b = true → (t.1 = 0 ∧ ib w b = true) ∨ t.1 = 1
def gam (nm : Nat) (en : Nat → Nat) (σ : sT) (T : tyT) (nu : Int32 → Int64) (mu : Int32 → Prop) : Prop := nu 0 = 0 ∧ (∀ i, un (nu i) ≤ 65535) ∧ (∀ i, i < 75 → gm_c nm en (uZ (tyW T)) nu mu (σ i) (tyC T i)) ∧ ∀ i, 11 ≤ i → i < 75 → gm_s (σ i) (tyC T i) (tyM T i)
section GA
variable {nm Z : Nat} {en : Nat → Nat} {σ : sT} {T : tyT} {nu nu2 : Int32 → Int64} {mu mu2 : Int32 → Prop} {x : sC} {t : tyV} {c : Int64} {d i : Nat}
/-- a kind is no other -/
theorem gm_kx {k : Int32} (h : cK x = k) : (¬ k = 1 → ¬ cK x = 1) ∧ (¬ k = 2 → ¬ cK x = 2) ∧ (¬ k = 3 → ¬ cK x = 3) ∧ (¬ k = 4 → ¬ cK x = 4) ∧ (¬ k = 5 → ¬ cK x = 5) ∧ (¬ k = 6 → ¬ cK x = 6) ∧ (¬ k = 7 → ¬ cK x = 7) ∧ (¬ k = 8 → ¬ cK x = 8) := by
  rw [h]
  exact ⟨id, id, id, id, id, id, id, id⟩
theorem gm_n {t : tyV} {k : Int32} (h : t.1 = k) (g : ¬ k = 0) {P : Prop} : P → ¬ t.1 = 0 := fun _ => by rw [h]; exact g
theorem gm_0 (h : cK x = 0) : gm_c nm en Z nu mu x t := by
  unfold gm_c
  rw [h]
  exact ⟨fun z => absurd z (by decide), fun z => absurd z (by decide), fun z => absurd z (by decide), fun z => absurd z (by decide), fun z => absurd z (by decide), fun z => absurd z (by decide), fun z => absurd z (by decide), fun z => absurd z (by decide), fun z => absurd rfl z⟩
theorem gm_1 (h : cK x = 1) (g : t = ty_n t.2.1 ∧ gN (cX x) t.2.1) : gm_c nm en Z nu mu x t := by
  unfold gm_c
  rw [h]
  exact ⟨fun _ => g, fun z => absurd z (by decide), fun z => absurd z (by decide), fun z => absurd z (by decide), fun z => absurd z (by decide), fun z => absurd z (by decide), fun z => absurd z (by decide), fun z => absurd z (by decide), gm_n (k := 1) (by rw [g.1]) (by decide)⟩
theorem gm_2 (h : cK x = 2) (g : t.1 = 2 ∧ t.2.1 = (cPl x).toInt64) : gm_c nm en Z nu mu x t := by
  unfold gm_c
  rw [h]
  exact ⟨fun z => absurd z (by decide), fun _ => g, fun z => absurd z (by decide), fun z => absurd z (by decide), fun z => absurd z (by decide), fun z => absurd z (by decide), fun z => absurd z (by decide), fun z => absurd z (by decide), gm_n g.1 (by decide)⟩
theorem gm_3 (h : cK x = 3) (g : t.1 = 3 ∧ t.2.1 = (cPl x).toInt64) : gm_c nm en Z nu mu x t := by
  unfold gm_c
  rw [h]
  exact ⟨fun z => absurd z (by decide), fun z => absurd z (by decide), fun _ => g, fun z => absurd z (by decide), fun z => absurd z (by decide), fun z => absurd z (by decide), fun z => absurd z (by decide), fun z => absurd z (by decide), gm_n g.1 (by decide)⟩
theorem gm_4 (h : cK x = 4) (g : t.1 = 4 ∧ t.2.1 = nu (cI x) + (cPl x).toInt64 ∧ gN (cX x) (nu (cI x)) ∧ (0 < (cR x).toInt → (un (nu (cI x)) : Int) + (cR x).toInt ≤ (Z : Int))) : gm_c nm en Z nu mu x t := by
  unfold gm_c
  rw [h]
  exact ⟨fun z => absurd z (by decide), fun z => absurd z (by decide), fun z => absurd z (by decide), fun _ => g, fun z => absurd z (by decide), fun z => absurd z (by decide), fun z => absurd z (by decide), fun z => absurd z (by decide), gm_n g.1 (by decide)⟩
theorem gm_5 (h : cK x = 5) (g : t.1 = 5 ∧ t.2.1 = (nI Z).toInt64) : gm_c nm en Z nu mu x t := by
  unfold gm_c
  rw [h]
  exact ⟨fun z => absurd z (by decide), fun z => absurd z (by decide), fun z => absurd z (by decide), fun z => absurd z (by decide), fun _ => g, fun z => absurd z (by decide), fun z => absurd z (by decide), fun z => absurd z (by decide), gm_n g.1 (by decide)⟩
theorem gm_6 (h : cK x = 6) (g : t.1 = 6 ∧ cM x = nI t.2.2.1 ∧ t.2.2.1 < nm) : gm_c nm en Z nu mu x t := by
  unfold gm_c
  rw [h]
  exact ⟨fun z => absurd z (by decide), fun z => absurd z (by decide), fun z => absurd z (by decide), fun z => absurd z (by decide), fun z => absurd z (by decide), fun _ => g, fun z => absurd z (by decide), fun z => absurd z (by decide), gm_n g.1 (by decide)⟩
theorem gm_7 (h : cK x = 7) (g : t.1 = 7 ∧ cM x = nI t.2.2.1 ∧ t.2.2.1 < nm ∧ t.2.2.2 < en t.2.2.1 ∧ ∃ u, gN (cX x) u ∧ t.2.1 = u + (cPl x).toInt64) : gm_c nm en Z nu mu x t := by
  unfold gm_c
  rw [h]
  exact ⟨fun z => absurd z (by decide), fun z => absurd z (by decide), fun z => absurd z (by decide), fun z => absurd z (by decide), fun z => absurd z (by decide), fun z => absurd z (by decide), fun _ => g, fun z => absurd z (by decide), gm_n g.1 (by decide)⟩
theorem gm_8 (h : cK x = 8) (g : (mu (cI x) ∧ t.1 = 7 ∧ cM x = nI t.2.2.1 ∧ t.2.2.1 < nm ∧ t.2.2.2 < en t.2.2.1 ∧ t.2.1 = 0) ∨ (¬ mu (cI x) ∧ t = ty_n 0)) : gm_c nm en Z nu mu x t := by
  unfold gm_c
  rw [h]
  exact ⟨fun z => absurd z (by decide), fun z => absurd z (by decide), fun z => absurd z (by decide), fun z => absurd z (by decide), fun z => absurd z (by decide), fun z => absurd z (by decide), fun z => absurd z (by decide), fun _ => g, fun _ => by rcases g with g | g; rw [g.2.1]; decide; rw [g.2]; decide⟩
/-- other identities -/
theorem gm_nu (h : gm_c nm en Z nu mu x t) (g : hid x → nu2 (cI x) = nu (cI x) ∧ (mu2 (cI x) ↔ mu (cI x))) : gm_c nm en Z nu2 mu2 x t := by
  obtain ⟨h1, h2, h3, h4, h5, h6, h7, h8, h9⟩ := h
  refine ⟨h1, h2, h3, fun k => ?_, h5, h6, h7, fun k => ?_, h9⟩
  · rw [(g (Or.inl k)).1]; exact h4 k
  · rw [(g (Or.inr k)).2]; exact h8 k
/-- a register is given -/
theorem gam_set (h : gam nm en σ T nu mu) (hi : i < 11) (g : gm_c nm en (uZ (tyW T)) nu mu x t) : gam nm en (up σ i x) (ty_set T i t) nu mu := by
  obtain ⟨h1, h2, h3, h4⟩ := h
  refine ⟨h1, h2, fun j hj => ?_, fun j g1 hj => ?_⟩
  · show gm_c nm en (uZ (tyW T)) nu mu (if j = i then x else σ j) (if j = i then t else tyC T j)
    by_cases e : j = i
    · rw [if_pos e, if_pos e]; exact g
    · rw [if_neg e, if_neg e]; exact h3 j hj
  · show gm_s (if j = i then x else σ j) (if j = i then t else tyC T j) (tyM T j)
    rw [if_neg (by omega), if_neg (by omega)]
    exact h4 j g1 hj
theorem gam_nu (h : gam nm en σ T nu mu) (h0 : nu2 0 = 0) (hb : ∀ i, un (nu2 i) ≤ 65535) (g : ∀ i, i < 75 → hid (σ i) → nu2 (cI (σ i)) = nu (cI (σ i)) ∧ (mu2 (cI (σ i)) ↔ mu (cI (σ i)))) : gam nm en σ T nu2 mu2 := ⟨h0, hb, fun i hi => gm_nu (h.2.2.1 i hi) (g i hi), h.2.2.2⟩
theorem gm_by (h : gam nm en σ T nu mu) (hf : d_fi c < 11) : gm_c nm en (uZ (tyW T)) nu mu (s_by c σ) (ty_op c T) := by
  unfold s_by ty_op
  by_cases g : d_rf c = 0
  · rw [if_pos g, if_pos g]
    exact gm_1 rfl ⟨rfl, ex_gN⟩
  · rw [if_neg g, if_neg g]
    exact h.2.2.1 _ (by omega)
theorem d_lt (c : Int64) : ∃ n, n < 256 ∧ d_op c = nI n := by
  have : ∀ z : Int32, ∃ k, k < 256 ∧ z &&& 255 = nI k := by
    intro z
    have hb : (z &&& 255).toBitVec.toNat < 256 := by
      rw [Int32.toBitVec_and, BitVec.toNat_and]
      exact Nat.lt_of_le_of_lt Nat.and_le_right (by decide)
    have e : (z &&& 255) = nI (z &&& 255).toBitVec.toNat := Int32.toBitVec_inj.mp (BitVec.eq_of_toNat_eq (by
      show (z &&& 255).toBitVec.toNat = (BitVec.ofNat 32 (z &&& 255).toBitVec.toNat).toNat
      rw [BitVec.toNat_ofNat, Nat.mod_eq_of_lt]
      exact Nat.lt_of_lt_of_le hb (by decide)))
    exact ⟨_, hb, e⟩
  exact this _
theorem t_sw : ∀ n, n < 256 → ((kd (nI n)).2.1 = 13 ∨ (kd (nI n)).2.1 = 14) → (kd (nI n)).2.2.2.2 = 0 ∧ (kd (nI n)).2.2.1 = 0 := by decide +kernel
theorem d_sw (h : d_opn c = 13 ∨ d_opn c = 14) : d_rf c = 0 ∧ d_nar c = 0 := by
  obtain ⟨n, hn, e⟩ := d_lt c
  unfold d_opn at h
  unfold d_rf d_nar
  rw [e] at h ⊢
  exact t_sw n hn h
end GA
