/-! PURE: what a store does. -/
section HPU
variable {rc : tyV → Int64} {T U : tyT} {reg : Nat → Int64} {stk pkt : Nat → Int32} {zs nt : Int32} {tel : Nat → Int64} {clk c v pl : Int64} {nm i : Nat} {tb : Nat → Prop} {kb vb : Int32 → Int32} {en : Nat → Nat} {H : Nat → Nat → Int32} {K V : Nat → Nat → Nat → Int32} {t x : tyV}
theorem sto_W : tyW (ty_sto c T pl x) = tyW T := by
  unfold ty_sto
  split <;> rfl
theorem sto_C : tyC (ty_sto c T pl x) = fup (tyC T) (sl pl.toInt32) (if d_by c = 8 then x else (0, 0, 0, 0)) := by
  unfold ty_sto
  by_cases e : d_by c = 8
  · rw [if_pos e, if_pos e]
  · rw [if_neg e, if_neg e]
theorem op_I (hI : tyI nm en T) : (ty_op c T).1 = 7 → (ty_op c T).2.2.1 < nm ∧ (ty_op c T).2.2.2 < en (ty_op c T).2.2.1 := by
  unfold ty_op
  split
  · exact fun z => absurd (show (1 : Int32) = 7 from z) (by decide)
  · exact hI _
theorem put_rd (hrc : ∀ t : tyV, t.1 = 1 → rc t = t.2.1) (h : mo rc T reg stk pkt zs nt tel clk) (hm : mst nm tb kb vb en (tyW T) H K V) (hI : tyI nm en T) (ho : ty_put c vb T = some U) (ht : t = tyC T (d_ti c)) (hp : pl = ty_pl c t) (hx : x = ty_op c T) (hx0 : ¬ x.1 = 0) : ty_ptr t ∧ ¬ t.1 = 2 ∧ ty_in vb T t pl (d_nn c) ∧ (x.1 = 1 ∨ (d_fam c = 3 ∧ t.1 = 3 ∧ d_by c = 8)) ∧ tyI nm en U ∧ (t.1 = 3 → jirem pl.toInt32 (d_by c) = 0 ∧ (d_fam c = 5 → ty_able T (sl pl.toInt32) (d_bm c pl.toInt32)) ∧ mo rc U reg (wrb stk (pl + 512).toNatClampNeg (d_nn c) ((if d_fam c = 5 then yn stk (pl + 512).toNatClampNeg (d_nn c) 0 else 0) + rc x)) pkt zs nt tel clk ∧ tyW U = tyW T ∧ ∃ X, U = ty_sto c T pl X ∧ X.1 = x.1) ∧ (t.1 = 4 → ¬ d_fam c = 5 ∧ mo rc U reg stk (wrb pkt pl.toNatClampNeg (d_nn c) (rc x)) zs nt tel clk ∧ mst nm tb kb vb en (tyW U) H K V ∧ uC (tyW U) = uC (tyW T) ∧ tyC U = tyC T ∧ tyM U = tyM T) ∧ (t.1 = 7 → t.2.2.1 < nm ∧ t.2.2.2 < en t.2.2.1 ∧ mo rc U reg stk pkt zs nt tel clk ∧ mst nm tb kb vb en (tyW U) H K (fup V t.2.2.1 (fup (V t.2.2.1) t.2.2.2 (wrb (V t.2.2.1 t.2.2.2) pl.toNatClampNeg (d_nn c) ((if d_fam c = 5 then yn (V t.2.2.1 t.2.2.2) pl.toNatClampNeg (d_nn c) 0 else 0) + rc x)))) ∧ uC (tyW U) = uC (tyW T) ∧ tyC U = tyC T ∧ tyM U = tyM T) := by
  unfold ty_put at ho
  rw [← ht, ← hp, ← hx] at ho
  refine Or.elim (Classical.em (ty_in vb T t pl (d_nn c) ∧ (x.1 = 1 ∨ (d_fam c = 3 ∧ t.1 = 3 ∧ d_by c = 8)))).symm (fun hin => ?_) (fun hin => ?_)
  · rw [ic_f hin] at ho; cases ho
  rw [ic_t hin] at ho
  obtain ⟨hin, hk⟩ := hin
  by_cases k3 : t.1 = 3
  · rw [if_pos k3] at ho
    have no4 : t.1 = 4 → False := fun z => absurd (k3.symm.trans z) (by decide)
    have no7 : t.1 = 7 → False := fun z => absurd (k3.symm.trans z) (by decide)
    have no2 : ¬ t.1 = 2 := fun z => absurd (k3.symm.trans z) (by decide)
    refine Or.elim (Classical.em (jirem pl.toInt32 (d_by c) = 0)).symm (fun g => ?_) (fun g => ?_)
    · rw [if_neg g] at ho; cases ho
    rw [if_pos g] at ho
    have hin2 := hin
    unfold ty_in at hin2
    rw [if_neg no2, if_pos k3] at hin2
    obtain ⟨a1, a2, a3, a4, a5⟩ := bm64 hin2.1 hin2.2 g
    by_cases f5 : d_fam c = 5 ∧ ¬ ty_able T (sl pl.toInt32) (d_bm c pl.toInt32)
    · rw [ic_t f5] at ho; cases ho
    rw [ic_f f5] at ho
    have ab : d_fam c = 5 → ty_able T (sl pl.toInt32) (d_bm c pl.toInt32) := fun z => Classical.not_not.mp (fun q => f5 ⟨z, q⟩)
    obtain ⟨X, hX⟩ : ∃ X, X = (if d_fam c = 5 then ty_n (ty_get c T t + x.2.1) else x) := ⟨_, rfl⟩
    rw [← hX] at ho
    have eU := (Option.some.inj ho).symm
    have x1 : d_fam c = 5 → x.1 = 1 := fun z => hk.elim id (fun q => absurd (z.symm.trans q.1) (by decide))
    have X1 : X.1 = x.1 := by
      rw [hX]
      by_cases e : d_fam c = 5
      · rw [if_pos e, x1 e]
      · rw [if_neg e]
    have rX : rc X = (if d_fam c = 5 then yn stk (pl + 512).toNatClampNeg (d_nn c) 0 else 0) + rc x := by
      rw [hX]
      by_cases e : d_fam c = 5
      · rw [if_pos e, if_pos e, hrc _ rfl, hrc _ (x1 e), ys_p hrc h.2.1 hin2.1 hin2.2 g (ab e)]
        show ty_get c T t + x.2.1 = _
        unfold ty_get ty_ar ty_ad
        rw [if_neg no2, if_pos k3, if_pos k3, hp]
      · rw [if_neg e, if_neg e, Int64.zero_add]
    have hs := ys_s hrc h.2.1 hin2.1 hin2.2 g (x := X) (by
      rw [X1]
      exact hk.elim Or.inl (fun q => Or.inr ⟨q.2.2, hx0⟩))
    rw [rX] at hs
    have sl11 : 11 ≤ sl pl.toInt32 := by omega
    have hreg : ∀ i, i < 11 → tyC (ty_sto c T pl X) i = tyC T i := fun i hi => by
      rw [sto_C]
      exact if_neg (by omega)
    refine ⟨Or.inr (Or.inl k3), no2, hin, hk, ?_, fun _ => ⟨g, ab, ?_, by rw [eU, sto_W], X, eU, X1⟩, fun z => (no4 z).elim, fun z => (no7 z).elim⟩
    · rw [eU]
      intro j hj
      rw [sto_C] at hj ⊢
      by_cases e : j = sl pl.toInt32
      · have e1 : fup (tyC T) (sl pl.toInt32) (if d_by c = 8 then X else (0, 0, 0, 0)) j = (if d_by c = 8 then X else (0, 0, 0, 0)) := if_pos e
        rw [e1] at hj ⊢
        by_cases e8 : d_by c = 8
        · rw [if_pos e8] at hj ⊢
          by_cases e5 : d_fam c = 5
          · rw [X1, x1 e5] at hj
            exact absurd hj (by decide)
          · rw [if_neg e5] at hX
            rw [hX, hx] at hj ⊢
            exact op_I hI hj
        · rw [if_neg e8] at hj
          exact absurd (show (0 : Int32) = 7 from hj) (by decide)
      · have e1 : fup (tyC T) (sl pl.toInt32) (if d_by c = 8 then X else (0, 0, 0, 0)) j = tyC T j := if_neg e
        rw [e1] at hj ⊢
        exact hI j hj
    · rw [eU]
      refine ⟨fun i hi hk2 => ?_, hs, ?_⟩
      · rw [hreg i hi] at hk2 ⊢
        exact h.1 i hi hk2
      · rw [sto_W]
        exact h.2.2
  rw [if_neg k3] at ho
  have x1 : x.1 = 1 := hk.elim id (fun q => absurd q.2.1 k3)
  by_cases k4 : t.1 = 4 ∧ ¬ d_fam c = 5
  · rw [if_pos k4] at ho
    have eU := (Option.some.inj ho).symm
    have no2 : ¬ t.1 = 2 := fun z => absurd (k4.1.symm.trans z) (by decide)
    have no7 : t.1 = 7 → False := fun z => absurd (k4.1.symm.trans z) (by decide)
    refine ⟨Or.inr (Or.inr (Or.inl k4.1)), no2, hin, hk, ?_, fun z => absurd z k3, fun _ => ⟨k4.2, ?_, ?_, ?_, ?_, ?_⟩, fun z => (no7 z).elim⟩
    · rw [eU]; exact hI
    · rw [eU]
      refine ⟨h.1, h.2.1, fun a ha => ?_, h.2.2.2⟩
      show wrb pkt _ _ _ a = wrb (uP (tyW T)) _ _ _ a
      unfold wrb
      rw [hrc _ x1, h.2.2.1 a ha]
    · rw [eU]; exact hm
    · rw [eU]; rfl
    · rw [eU]; rfl
    · rw [eU]; rfl
  rw [if_neg k4] at ho
  refine Or.elim (Classical.em (t.1 = 7)).symm (fun k7 => ?_) (fun k7 => ?_)
  · rw [if_neg k7] at ho; cases ho
  rw [if_pos k7] at ho
  have eU := (Option.some.inj ho).symm
  have no2 : ¬ t.1 = 2 := fun z => absurd (k7.symm.trans z) (by decide)
  have no4 : ¬ t.1 = 4 := fun z => absurd (k7.symm.trans z) (by decide)
  obtain ⟨m1, m2⟩ := hI (d_ti c) (by rw [← ht]; exact k7)
  rw [← ht] at m1 m2
  have hin2 := hin
  unfold ty_in at hin2
  rw [if_neg no2, if_neg k3, if_neg no4] at hin2
  refine ⟨Or.inr (Or.inr (Or.inr k7)), no2, hin, hk, by rw [eU]; exact hI, fun z => absurd z k3, fun z => absurd z no4, fun _ => ⟨m1, m2, by rw [eU]; exact h, ?_, by rw [eU]; rfl, by rw [eU]; rfl, by rw [eU]; rfl⟩⟩
  have ev : ∀ b, b < (vb (nI t.2.2.1)).toNatClampNeg → V t.2.2.1 t.2.2.2 b = uV (tyW T) t.2.2.1 t.2.2.2 b := (hm _ m1).2.1 _ m2
  have es : (if d_fam c = 5 then ty_get c T t + x.2.1 else x.2.1) = (if d_fam c = 5 then yn (V t.2.2.1 t.2.2.2) pl.toNatClampNeg (d_nn c) 0 else 0) + rc x := by
    by_cases e : d_fam c = 5
    · rw [if_pos e, if_pos e, hrc _ x1]
      unfold ty_get ty_ar ty_ad
      rw [if_neg no2, if_neg k3, if_neg no4, if_neg k3, ← hp]
      rw [yn_c (f := V t.2.2.1 t.2.2.2) (g := uV (tyW T) t.2.2.1 t.2.2.2) (a := pl.toNatClampNeg) (b := pl.toNatClampNeg) (d_nn c) 0 (fun i hi => ev _ (by
        have e1 : (pl.toNatClampNeg : Int) = pl.toInt := by
          show ((pl.toInt.toNat : Nat) : Int) = _
          omega
        have e2 : ((vb (nI t.2.2.1)).toNatClampNeg : Int) = (vb (nI t.2.2.1)).toInt := by
          show (((vb (nI t.2.2.1)).toInt.toNat : Nat) : Int) = _
          omega
        omega))]
    · rw [if_neg e, if_neg e, hrc _ x1, Int64.zero_add]
  rw [es] at eU
  generalize (if d_fam c = 5 then yn (V t.2.2.1 t.2.2.2) pl.toNatClampNeg (d_nn c) 0 else 0) + rc x = w at eU ⊢
  rw [eU]
  intro m hm1
  obtain ⟨g1, g2, g3⟩ := hm m hm1
  refine ⟨g1, fun i hi b hb => ?_, g3⟩
  show fup V t.2.2.1 _ m i b = fup (uV (tyW T)) t.2.2.1 (fup (uV (tyW T) t.2.2.1) t.2.2.2 (wrb (uV (tyW T) t.2.2.1 t.2.2.2) pl.toNatClampNeg (d_nn c) w)) m i b
  unfold fup
  by_cases em : m = t.2.2.1
  · rw [if_pos em, if_pos em]
    by_cases ei : i = t.2.2.2
    · rw [if_pos ei, if_pos ei]
      unfold wrb
      rw [em] at hb
      rw [ev b hb]
    · rw [if_neg ei, if_neg ei]
      rw [← em]
      exact g2 i hi b hb
  · rw [if_neg em, if_neg em]
    exact g2 i hi b hb
end HPU
