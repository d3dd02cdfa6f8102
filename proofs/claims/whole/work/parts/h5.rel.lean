/-! PURE: what stands in a run's memory against the typed machine; loads and stores. -/
/-- registers, stack, packet, its size, how many tellings, tellings, clock -/
def mo (rc : tyV → Int64) (T : tyT) (reg : Nat → Int64) (stk pkt : Nat → Int32) (zs nt : Int32) (tel : Nat → Int64) (clk : Int64) : Prop := (∀ i, i < 11 → ¬ (tyC T i).1 = 0 → reg i = rc (tyC T i)) ∧ (∀ a, a < 512 → ys rc T a (stk a)) ∧ (∀ a, a < 2000 → pkt a = uP (tyW T) a) ∧ (zs = nI (uZ (tyW T)) ∧ uZ (tyW T) ≤ 2000) ∧ (nt = nI (uN (tyW T)) ∧ uN (tyW T) ≤ 1000 ∧ ∀ i, i < uN (tyW T) → tel i = uL (tyW T) i) ∧ clk = uT (tyW T)
/-- the maps: what is there, keys, values -/
def mst (nm : Nat) (tb : Nat → Prop) (kb vb : Int32 → Int32) (en : Nat → Nat) (U : tyU) (H : Nat → Nat → Int32) (K V : Nat → Nat → Nat → Int32) : Prop := ∀ m, m < nm → (∀ i, i < en m → (H m i = 0 ↔ ¬ uH U m i)) ∧ (∀ i, i < en m → ∀ b, b < (vb (nI m)).toNatClampNeg → V m i b = uV U m i b) ∧ (tb m → ∀ i, i < en m → uH U m i → ∀ b, b < (kb (nI m)).toNatClampNeg → K m i b = uK U m i b)
/-- values are of maps and entries that are -/
def tyI (nm : Nat) (en : Nat → Nat) (T : tyT) : Prop := ∀ i, (tyC T i).1 = 7 → (tyC T i).2.2.1 < nm ∧ (tyC T i).2.2.2 < en (tyC T i).2.2.1
section HRL
variable {rc : tyV → Int64} {T U : tyT} {reg : Nat → Int64} {stk pkt : Nat → Int32} {zs nt : Int32} {tel : Nat → Int64} {clk c v : Int64} {nm i : Nat} {tb : Nat → Prop} {kb vb : Int32 → Int32} {en : Nat → Nat} {H : Nat → Nat → Int32} {K V : Nat → Nat → Nat → Int32} {t : tyV}
theorem mo_set (h : mo rc T reg stk pkt zs nt tel clk) (hi : i < 11) (hv : ¬ t.1 = 0 → v = rc t) : mo rc (ty_set T i t) (fup reg i v) stk pkt zs nt tel clk := by
  refine ⟨fun j hj hk => ?_, fun a ha => ?_, h.2.2⟩
  · by_cases e : j = i
    · have e1 : tyC (ty_set T i t) j = t := if_pos e
      have e2 : fup reg i v j = v := if_pos e
      rw [e1] at hk ⊢
      rw [e2]
      exact hv hk
    · have e1 : tyC (ty_set T i t) j = tyC T j := if_neg e
      have e2 : fup reg i v j = reg j := if_neg e
      rw [e1] at hk ⊢
      rw [e2]
      exact h.1 j hj hk
  · have e1 : tyC (ty_set T i t) (74 - a / 8) = tyC T (74 - a / 8) := if_neg (by omega)
    have := h.2.1 a ha
    unfold ys at this ⊢
    rw [e1]
    exact this
theorem tyI_set (h : tyI nm en T) (ht : t.1 = 7 → t.2.2.1 < nm ∧ t.2.2.2 < en t.2.2.1) : tyI nm en (ty_set T i t) := by
  intro j hj
  by_cases e : j = i
  · have e1 : tyC (ty_set T i t) j = t := if_pos e
    rw [e1] at hj ⊢
    exact ht hj
  · have e1 : tyC (ty_set T i t) j = tyC T j := if_neg e
    rw [e1] at hj ⊢
    exact h j hj
theorem nn_8 (h : d_by c = 8) : d_nn c = 8 := by unfold d_nn; rw [h]; rfl
theorem nz_rc (hrc : ∀ t : tyV, t.1 = 1 → rc t = t.2.1) : rc (ty_nz t) = rc t := by
  unfold ty_nz
  by_cases e : t.1 = 1
  · rw [if_pos e, hrc _ rfl, hrc _ e]
  · rw [if_neg e]
/-- what a load gives -/
theorem load_rd (hrc : ∀ t : tyV, t.1 = 1 → rc t = t.2.1) (hs : ∀ a, a < 512 → ys rc T a (stk a)) (hI : tyI nm en T) (ho : ty_load c vb T = some U) {t : tyV} (ht : t = tyC T (d_fi c)) {pl : Int64} (hp : pl = ty_pl c t) : ty_ptr t ∧ ty_in vb T t pl (d_nn c) ∧ ∃ x, U = ty_set T (d_ti c) x ∧ ¬ x.1 = 0 ∧ (x.1 = 7 → x.2.2.1 < nm ∧ x.2.2.2 < en x.2.2.1) ∧ (t.1 = 2 → (jirem pl.toInt32 (d_by c) = 0 ∧ (16 ≤ pl ∨ d_by c = 8)) ∧ ((16 ≤ pl ∧ x = ty_n (yn (uC (tyW T)) pl.toNatClampNeg (d_nn c) 0)) ∨ (¬ 16 ≤ pl ∧ d_nn c = 8 ∧ pl = 0 ∧ x = (4, 0, 0, 0)) ∨ (¬ 16 ≤ pl ∧ d_nn c = 8 ∧ ¬ pl = 0 ∧ x = (5, (nI (uZ (tyW T))).toInt64, 0, 0)))) ∧ (t.1 = 3 → jirem pl.toInt32 (d_by c) = 0 ∧ rc x = yn stk (pl + 512).toNatClampNeg (d_nn c) 0 ∧ (((¬ (tyC T (sl pl.toInt32)).1 = 0 ∧ d_by c = 8) ∧ x.1 = (tyC T (sl pl.toInt32)).1) ∨ (¬ (¬ (tyC T (sl pl.toInt32)).1 = 0 ∧ d_by c = 8) ∧ ty_able T (sl pl.toInt32) (d_bm c pl.toInt32) ∧ x.1 = 1))) ∧ (t.1 = 4 → x = ty_n (yn (uP (tyW T)) pl.toNatClampNeg (d_nn c) 0)) ∧ (t.1 = 7 → x = ty_n (yn (uV (tyW T) t.2.2.1 t.2.2.2) pl.toNatClampNeg (d_nn c) 0)) := by
  unfold ty_load at ho
  rw [← ht, ← hp] at ho
  have n17 : ∀ {z : Int64}, (ty_n z).1 = 7 → (ty_n z).2.2.1 < nm ∧ (ty_n z).2.2.2 < en (ty_n z).2.2.1 := fun z => absurd (show (1 : Int32) = 7 from z) (by decide)
  have n10 : ∀ {z : Int64}, ¬ (ty_n z).1 = 0 := fun z => absurd (show (1 : Int32) = 0 from z) (by decide)
  refine Or.elim (Classical.em (ty_in vb T t pl (d_nn c))).symm (fun hin => ?_) (fun hin => ?_)
  · rw [ic_f hin] at ho; cases ho
  rw [ic_t hin] at ho
  by_cases k2 : t.1 = 2
  · rw [if_pos k2] at ho
    refine Or.elim (Classical.em (jirem pl.toInt32 (d_by c) = 0 ∧ (16 ≤ pl ∨ d_by c = 8))).symm (fun g => ?_) (fun g => ?_)
    · rw [if_neg g] at ho; cases ho
    rw [if_pos g] at ho
    refine ⟨Or.inl k2, hin, ?_⟩
    have no3 : t.1 = 3 → False := fun z => absurd (k2.symm.trans z) (by decide)
    have no4 : t.1 = 4 → False := fun z => absurd (k2.symm.trans z) (by decide)
    have no7 : t.1 = 7 → False := fun z => absurd (k2.symm.trans z) (by decide)
    by_cases g16 : 16 ≤ pl
    · rw [if_pos g16] at ho
      have ea : ty_get c T t = yn (uC (tyW T)) pl.toNatClampNeg (d_nn c) 0 := by
        unfold ty_get ty_ar ty_ad
        rw [if_pos k2, if_neg (by rw [k2]; decide), hp]
      rw [ea] at ho
      exact ⟨_, (Option.some.inj ho).symm, n10, n17, fun _ => ⟨g, Or.inl ⟨g16, rfl⟩⟩, fun z => (no3 z).elim, fun z => (no4 z).elim, fun z => (no7 z).elim⟩
    · rw [if_neg g16] at ho
      have b8 := g.2.resolve_left g16
      by_cases p0 : pl = 0
      · rw [if_pos p0] at ho
        exact ⟨_, (Option.some.inj ho).symm, by decide, fun z => absurd (show (4 : Int32) = 7 from z) (by decide), fun _ => ⟨g, Or.inr (Or.inl ⟨g16, nn_8 b8, p0, rfl⟩)⟩, fun z => (no3 z).elim, fun z => (no4 z).elim, fun z => (no7 z).elim⟩
      · rw [if_neg p0] at ho
        exact ⟨_, (Option.some.inj ho).symm, fun z => absurd (show (5 : Int32) = 0 from z) (by decide), fun z => absurd (show (5 : Int32) = 7 from z) (by decide), fun _ => ⟨g, Or.inr (Or.inr ⟨g16, nn_8 b8, p0, rfl⟩)⟩, fun z => (no3 z).elim, fun z => (no4 z).elim, fun z => (no7 z).elim⟩
  rw [if_neg k2] at ho
  by_cases k3 : t.1 = 3
  · rw [if_pos k3] at ho
    refine Or.elim (Classical.em (jirem pl.toInt32 (d_by c) = 0)).symm (fun g => ?_) (fun g => ?_)
    · rw [if_neg g] at ho; cases ho
    rw [if_pos g] at ho
    have hin2 := hin
    unfold ty_in at hin2
    rw [if_neg k2, if_pos k3] at hin2
    obtain ⟨a1, a2, a3, a4, a5⟩ := bm64 hin2.1 hin2.2 g
    have no4 : t.1 = 4 → False := fun z => absurd (k3.symm.trans z) (by decide)
    have no7 : t.1 = 7 → False := fun z => absurd (k3.symm.trans z) (by decide)
    refine ⟨Or.inr (Or.inl k3), hin, ?_⟩
    by_cases w : ¬ (tyC T (sl pl.toInt32)).1 = 0 ∧ d_by c = 8
    · rw [if_pos w] at ho
      refine ⟨_, (Option.some.inj ho).symm, ?_, ?_, fun z => absurd z k2, fun _ => ⟨g, ?_, Or.inl ⟨w, ?_⟩⟩, fun z => (no4 z).elim, fun z => (no7 z).elim⟩
      · unfold ty_nz
        split
        · exact n10
        · exact w.1
      · unfold ty_nz
        split
        · exact n17
        · exact hI _
      · rw [nz_rc hrc, nn_8 w.2, ys_w hs a1 (by have := nn_8 w.2; omega) (by rw [← a3]; exact w.1), a3]
      · unfold ty_nz
        split
        · rename_i z; exact z.symm
        · rfl
    · rw [if_neg w] at ho
      refine Or.elim (Classical.em (ty_able T (sl pl.toInt32) (d_bm c pl.toInt32))).symm (fun ab => ?_) (fun ab => ?_)
      · rw [ic_f ab] at ho; cases ho
      rw [ic_t ab] at ho
      refine ⟨_, (Option.some.inj ho).symm, n10, n17, fun z => absurd z k2, fun _ => ⟨g, ?_, Or.inr ⟨w, ab, rfl⟩⟩, fun z => (no4 z).elim, fun z => (no7 z).elim⟩
      rw [hrc _ rfl, ys_p hrc hs hin2.1 hin2.2 g ab]
      show ty_get c T t = _
      unfold ty_get ty_ar ty_ad
      rw [if_neg k2, if_pos k3, if_pos k3, hp]
  rw [if_neg k3] at ho
  refine ⟨?_, hin, _, (Option.some.inj ho).symm, n10, n17, fun z => absurd z k2, fun z => absurd z k3, fun k4 => ?_, fun k7 => ?_⟩
  · unfold ty_in at hin
    rw [if_neg k2, if_neg k3] at hin
    by_cases k4 : t.1 = 4
    · exact Or.inr (Or.inr (Or.inl k4))
    · rw [if_neg k4] at hin
      exact Or.inr (Or.inr (Or.inr hin.1))
  · unfold ty_get ty_ar ty_ad
    rw [if_neg k2, if_neg k3, if_pos k4, if_neg k3, hp]
  · unfold ty_get ty_ar ty_ad
    rw [if_neg k2, if_neg k3, if_neg (by rw [k7]; decide), if_neg k3, hp]
end HRL
