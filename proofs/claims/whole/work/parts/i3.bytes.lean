/-! PURE: bytes stay bytes. -/
def isB (v : Int32) : Prop := v.toInt8.toInt32 = v
def uBy (U : tyU) : Prop := (∀ a, isB (uP U a)) ∧ (∀ a, isB (uC U a)) ∧ ∀ m i b, isB (uV U m i b)
def tBy (T : tyT) : Prop := uBy (tyW T) ∧ ∀ a, isB (tyB T a)
section IBY
variable {nm : Nat} {tb : Nat → Prop} {kb vb : Int32 → Int32} {en : Nat → Nat} {T U : tyT} {W : tyU} {c v w pl : Int64} {i n m s A b : Nat} {t x : tyV} {p : Nat → Int64}
theorem isB_8 {x : Int8} : isB x.toInt32 := by
  unfold isB
  rw [Int8.toInt8_toInt32]
theorem isB_yb : isB (yb v b) := isB_8
theorem nB {z : Int32} (h : isB z) : (z &&& 255).toInt8.toInt32 = z := by
  have e : (z &&& 255).toInt8 = z.toInt8 := by
    apply Int8.toBitVec_inj.mp
    apply BitVec.eq_of_getLsbD_eq
    intro i hi
    rw [Int32.toBitVec_toInt8, Int32.toBitVec_toInt8, BitVec.getLsbD_signExtend, BitVec.getLsbD_signExtend, if_pos (show i < 32 by omega), if_pos (show i < 32 by omega), Int32.toBitVec_and, BitVec.getLsbD_and]
    have t : ∀ i, i < 8 → (255 : Int32).toBitVec.getLsbD i = true := by decide
    rw [t i hi, Bool.and_true]
  rw [e]
  exact h
theorem nar_B {z : Int32} (h : isB z) : vp_nar .byte z = z := h
theorem isB_wrb {f : Nat → Int32} (h : ∀ a, isB (f a)) : ∀ a, isB (wrb f A n v a) := by
  intro a
  unfold wrb
  split
  · exact isB_yb
  · exact h a
theorem isB_sb (h : tBy T) (a : Nat) : isB (ty_sb T a) := by
  unfold ty_sb
  split
  · exact isB_yb
  · exact h.2 a
theorem sto_isB {X : tyV} (h : tBy T) : ∀ a, isB (tyB (ty_sto c T pl X) a) := by
  have e : tyB (ty_sto c T pl X) = if d_by c = 8 then tyB T else wrb (fun a => if 74 - a / 8 = sl pl.toInt32 then ty_sb T a else tyB T a) (pl + 512).toNatClampNeg (d_nn c) X.2.1 := by
    unfold ty_sto
    by_cases z : d_by c = 8
    · rw [if_pos z, if_pos z]
    · rw [if_neg z, if_neg z]
  rw [e]
  by_cases z : d_by c = 8
  · rw [if_pos z]; exact h.2
  · rw [if_neg z]
    have hf : ∀ a, isB ((fun a => if 74 - a / 8 = sl pl.toInt32 then ty_sb T a else tyB T a) a) := by
      intro a
      show isB (if 74 - a / 8 = sl pl.toInt32 then ty_sb T a else tyB T a)
      by_cases q : 74 - a / 8 = sl pl.toInt32
      · rw [if_pos q]; exact isB_sb h a
      · rw [if_neg q]; exact h.2 a
    exact isB_wrb hf
theorem isB_ar (h : tBy T) (a : Nat) : isB (ty_ar T t a) := by
  unfold ty_ar
  by_cases k2 : t.1 = 2
  · rw [if_pos k2]; exact h.1.2.1 a
  · rw [if_neg k2]
    by_cases k3 : t.1 = 3
    · rw [if_pos k3]; exact isB_sb h a
    · rw [if_neg k3]
      by_cases k4 : t.1 = 4
      · rw [if_pos k4]; exact h.1.1 a
      · rw [if_neg k4]; exact h.1.2.2 _ _ a
theorem isB_key (h : tBy T) (b : Nat) : isB (ty_key T t b) := isB_ar h _
theorem uBy_val (h : uBy W) {f : Nat → Int32} (hf : ∀ b, isB (f b)) : uBy (uV_s W m i f) := by
  refine ⟨h.1, h.2.1, fun l a b => ?_⟩
  show isB (fup (uV W) m (fup (uV W m) i f) l a b)
  unfold fup
  by_cases em : l = m
  · rw [if_pos em]
    by_cases ei : a = i
    · rw [if_pos ei]; exact hf b
    · rw [if_neg ei]; exact h.2.2 m a b
  · rw [if_neg em]; exact h.2.2 l a b
theorem uBy_uv (h : uBy W) {val : Nat → Int32} (hv : ∀ b, isB (val b)) : uBy (u_val W m i val n) := uBy_val h (fun b => by
  split
  · exact hv b
  · exact h.2.2 m i b)
theorem uBy_upd (h : uBy W) {key val : Nat → Int32} (hv : ∀ b, isB (val b)) : uBy (u_upd tb kb vb en W m key val).2 := by
  unfold u_upd
  cases u_find tb kb en W m key with
  | some i => exact uBy_uv h hv
  | none =>
    dsimp only
    by_cases ht : tb m
    · rw [ic_t ht]
      cases x_fst (fun i => ¬ uH W m i) (en m) 0 with
      | some i => exact uBy_uv (W := u_key (u_here W m i True) m i key (kb (nI m)).toNatClampNeg) h hv
      | none => exact h
    · rw [ic_f ht]
      exact h
theorem uBy_del (h : uBy W) {key : Nat → Int32} : uBy (u_del tb kb en W m key).2 := by
  unfold u_del
  by_cases ht : tb m
  · rw [ic_t ht]
    cases u_find tb kb en W m key with
    | some i => exact h
    | none => exact h
  · rw [ic_f ht]
    exact h
theorem tBy_hlp (h : tBy T) (ho : ty_hlp c nm tb kb vb en T = some U) : tBy U := by
  unfold ty_hlp at ho
  by_cases f4 : d_field c = 4
  · rw [if_pos f4] at ho
    by_cases k1 : (tyC T 1).1 = 1
    · rw [if_pos k1] at ho
      rw [← Option.some.inj ho]
      refine ⟨?_, h.2⟩
      show uBy (u_tell (tyW T) (tyC T 1).2.1)
      unfold u_tell
      split
      · exact h.1
      · exact h.1
    · rw [if_neg k1] at ho; cases ho
  rw [if_neg f4] at ho
  by_cases f5 : d_field c = 5
  · rw [if_pos f5] at ho
    rw [← Option.some.inj ho]
    exact ⟨h.1, h.2⟩
  rw [if_neg f5] at ho
  by_cases f6 : d_field c = 6
  · rw [if_pos f6] at ho
    refine Or.elim (Classical.em ((tyC T 2).1 = 1 ∧ 0 ≤ (tyC T 2).2.1 ∧ (tyC T 2).2.1 ≤ 512 ∧ ty_can vb T (tyC T 1) (tyC T 2).2.1.toNatClampNeg)).symm (fun k1 => ?_) (fun k1 => ?_)
    · rw [ic_f k1] at ho; cases ho
    rw [ic_t k1] at ho
    rw [← Option.some.inj ho]
    exact ⟨h.1, h.2⟩
  rw [if_neg f6] at ho
  refine Or.elim (Classical.em ((tyC T 1).1 = 6 ∧ (tyC T 1).2.2.1 < nm ∧ ty_can vb T (tyC T 2) (kb (nI (tyC T 1).2.2.1)).toNatClampNeg)).symm (fun g => ?_) (fun g => ?_)
  · rw [ic_f g] at ho; cases ho
  rw [ic_t g] at ho
  by_cases f1 : d_field c = 1
  · rw [if_pos f1] at ho
    cases e : u_find tb kb en (tyW T) (tyC T 1).2.2.1 (ty_key T (tyC T 2)) with
    | some i =>
      rw [e] at ho
      rw [← Option.some.inj ho]
      exact ⟨h.1, h.2⟩
    | none =>
      rw [e] at ho
      rw [← Option.some.inj ho]
      exact ⟨h.1, h.2⟩
  rw [if_neg f1] at ho
  by_cases f2 : d_field c = 2
  · rw [if_pos f2] at ho
    refine Or.elim (Classical.em (ty_can vb T (tyC T 3) (vb (nI (tyC T 1).2.2.1)).toNatClampNeg)).symm (fun g3 => ?_) (fun g3 => ?_)
    · rw [ic_f g3] at ho; cases ho
    rw [ic_t g3] at ho
    rw [← Option.some.inj ho]
    exact ⟨uBy_upd h.1 (fun b => isB_key h b), h.2⟩
  · rw [if_neg f2] at ho
    rw [← Option.some.inj ho]
    exact ⟨uBy_del h.1, h.2⟩
theorem uD_hlp (h : uD nm tb kb en (tyW T)) (ho : ty_hlp c nm tb kb vb en T = some U) : uD nm tb kb en (tyW U) := by
  unfold ty_hlp at ho
  by_cases f4 : d_field c = 4
  · rw [if_pos f4] at ho
    by_cases k1 : (tyC T 1).1 = 1
    · rw [if_pos k1] at ho
      rw [← Option.some.inj ho]
      show uD nm tb kb en (u_tell (tyW T) (tyC T 1).2.1)
      unfold u_tell
      split
      · exact h
      · exact h
    · rw [if_neg k1] at ho; cases ho
  rw [if_neg f4] at ho
  by_cases f5 : d_field c = 5
  · rw [if_pos f5] at ho
    rw [← Option.some.inj ho]
    exact h
  rw [if_neg f5] at ho
  by_cases f6 : d_field c = 6
  · rw [if_pos f6] at ho
    refine Or.elim (Classical.em ((tyC T 2).1 = 1 ∧ 0 ≤ (tyC T 2).2.1 ∧ (tyC T 2).2.1 ≤ 512 ∧ ty_can vb T (tyC T 1) (tyC T 2).2.1.toNatClampNeg)).symm (fun k1 => ?_) (fun k1 => ?_)
    · rw [ic_f k1] at ho; cases ho
    rw [ic_t k1] at ho
    rw [← Option.some.inj ho]
    exact h
  rw [if_neg f6] at ho
  refine Or.elim (Classical.em ((tyC T 1).1 = 6 ∧ (tyC T 1).2.2.1 < nm ∧ ty_can vb T (tyC T 2) (kb (nI (tyC T 1).2.2.1)).toNatClampNeg)).symm (fun g => ?_) (fun g => ?_)
  · rw [ic_f g] at ho; cases ho
  rw [ic_t g] at ho
  by_cases f1 : d_field c = 1
  · rw [if_pos f1] at ho
    cases e : u_find tb kb en (tyW T) (tyC T 1).2.2.1 (ty_key T (tyC T 2)) with
    | some i =>
      rw [e] at ho
      rw [← Option.some.inj ho]
      exact h
    | none =>
      rw [e] at ho
      rw [← Option.some.inj ho]
      exact h
  rw [if_neg f1] at ho
  by_cases f2 : d_field c = 2
  · rw [if_pos f2] at ho
    refine Or.elim (Classical.em (ty_can vb T (tyC T 3) (vb (nI (tyC T 1).2.2.1)).toNatClampNeg)).symm (fun g3 => ?_) (fun g3 => ?_)
    · rw [ic_f g3] at ho; cases ho
    rw [ic_t g3] at ho
    rw [← Option.some.inj ho]
    exact uD_upd h
  · rw [if_neg f2] at ho
    rw [← Option.some.inj ho]
    exact uD_del h
theorem put_w (ho : ty_put c vb T = some U) : (∃ X, U = ty_sto c T (ty_pl c (tyC T (d_ti c))) X) ∨ (∃ n v, U = ty_w T (uP_s (tyW T) (wrb (uP (tyW T)) n (d_nn c) v))) ∨ ∃ m i a v, U = ty_w T (uV_s (tyW T) m i (wrb (uV (tyW T) m i) a (d_nn c) v)) := by
  unfold ty_put at ho
  refine Or.elim (Classical.em (ty_in vb T (tyC T (d_ti c)) (ty_pl c (tyC T (d_ti c))) (d_nn c) ∧ ((ty_op c T).1 = 1 ∨ (d_fam c = 3 ∧ (tyC T (d_ti c)).1 = 3 ∧ d_by c = 8)))).symm (fun h => ?_) (fun h => ?_)
  · rw [ic_f h] at ho; cases ho
  rw [ic_t h] at ho
  by_cases k3 : (tyC T (d_ti c)).1 = 3
  · rw [if_pos k3] at ho
    by_cases g : jirem (ty_pl c (tyC T (d_ti c))).toInt32 (d_by c) = 0
    · rw [if_pos g] at ho
      by_cases f5 : d_fam c = 5 ∧ ¬ ty_able T (sl (ty_pl c (tyC T (d_ti c))).toInt32) (d_bm c (ty_pl c (tyC T (d_ti c))).toInt32)
      · rw [ic_t f5] at ho; cases ho
      · rw [ic_f f5] at ho
        exact Or.inl ⟨_, (Option.some.inj ho).symm⟩
    · rw [if_neg g] at ho; cases ho
  rw [if_neg k3] at ho
  by_cases k4 : (tyC T (d_ti c)).1 = 4 ∧ ¬ d_fam c = 5
  · rw [if_pos k4] at ho
    exact Or.inr (Or.inl ⟨_, _, (Option.some.inj ho).symm⟩)
  rw [if_neg k4] at ho
  by_cases k7 : (tyC T (d_ti c)).1 = 7
  · rw [if_pos k7] at ho
    exact Or.inr (Or.inr ⟨_, _, _, _, (Option.some.inj ho).symm⟩)
  · rw [if_neg k7] at ho; cases ho
theorem load_w (ho : ty_load c vb T = some U) : ∃ x, U = ty_set T (d_ti c) x := by
  unfold ty_load at ho
  refine Or.elim (Classical.em (ty_in vb T (tyC T (d_fi c)) (ty_pl c (tyC T (d_fi c))) (d_nn c))).symm (fun h => ?_) (fun h => ?_)
  · rw [ic_f h] at ho; cases ho
  rw [ic_t h] at ho
  by_cases k2 : (tyC T (d_fi c)).1 = 2
  · rw [if_pos k2] at ho
    split at ho
    · exact ⟨_, (Option.some.inj ho).symm⟩
    · cases ho
  rw [if_neg k2] at ho
  by_cases k3 : (tyC T (d_fi c)).1 = 3
  · rw [if_pos k3] at ho
    split at ho
    · split at ho
      · exact ⟨_, (Option.some.inj ho).symm⟩
      · by_cases ab : ty_able T (sl (ty_pl c (tyC T (d_fi c))).toInt32) (d_bm c (ty_pl c (tyC T (d_fi c))).toInt32)
        · rw [ic_t ab] at ho
          exact ⟨_, (Option.some.inj ho).symm⟩
        · rw [ic_f ab] at ho; cases ho
    · cases ho
  rw [if_neg k3] at ho
  exact ⟨_, (Option.some.inj ho).symm⟩
/-- bytes stay bytes, keys stay different -/
theorem step_B {o : Option Nat} (hB : tBy T) (hD : uD nm tb kb en (tyW T)) (ho : ty_step p nm tb kb vb en T s = some (U, o)) : tBy U ∧ uD nm tb kb en (tyW U) := by
  unfold ty_step at ho
  by_cases un : ty_unr (p s) T
  · rw [if_pos un] at ho; cases ho
  rw [if_neg un] at ho
  by_cases f8 : d_fam (p s) = 8
  · rw [if_pos f8] at ho
    cases er : ty_rel (p s) T with
    | none => rw [er] at ho; cases ho
    | some G =>
      rw [er] at ho
      have eU : U = T := (congrArg Prod.fst (Option.some.inj ho)).symm
      rw [eU]
      exact ⟨hB, hD⟩
  rw [if_neg f8] at ho
  cases ed : ty_do (p s) (p (s + 1)) nm tb kb vb en T with
  | none => rw [ed] at ho; cases ho
  | some U2 =>
    rw [ed] at ho
    have eU : U = U2 := (congrArg Prod.fst (Option.some.inj ho)).symm
    subst eU
    unfold ty_do at ed
    by_cases f1 : d_fam (p s) = 1
    · rw [if_pos f1] at ed
      rw [← Option.some.inj ed]
      exact ⟨hB, hD⟩
    rw [if_neg f1] at ed
    by_cases f6 : d_fam (p s) = 6
    · rw [if_pos f6] at ed
      obtain ⟨t, et⟩ := ari_form ed
      rw [et]
      exact ⟨hB, hD⟩
    rw [if_neg f6] at ed
    by_cases f7 : d_fam (p s) = 7
    · rw [if_pos f7] at ed
      rw [← Option.some.inj ed]
      exact ⟨hB, hD⟩
    rw [if_neg f7] at ed
    by_cases f9 : d_fam (p s) = 9
    · rw [if_pos f9] at ed
      exact ⟨tBy_hlp hB ed, uD_hlp hD ed⟩
    rw [if_neg f9] at ed
    by_cases f10 : d_fam (p s) = 10
    · rw [if_pos f10] at ed
      by_cases k1 : (tyC T 0).1 = 1
      · rw [if_pos k1] at ed
        rw [← Option.some.inj ed]
        exact ⟨hB, hD⟩
      · rw [if_neg k1] at ed; cases ed
    rw [if_neg f10] at ed
    by_cases f2 : d_fam (p s) = 2
    · rw [if_pos f2] at ed
      obtain ⟨x, ex⟩ := load_w ed
      rw [ex]
      exact ⟨hB, hD⟩
    · rw [if_neg f2] at ed
      rcases put_w ed with ⟨X, e⟩ | ⟨n, v, e⟩ | ⟨m, i, a, v, e⟩
      · rw [e]
        refine ⟨⟨by rw [sto_W]; exact hB.1, ?_⟩, by rw [sto_W]; exact hD⟩
        exact sto_isB hB
      · rw [e]
        exact ⟨⟨⟨isB_wrb hB.1.1, hB.1.2⟩, hB.2⟩, hD⟩
      · rw [e]
        exact ⟨⟨uBy_val hB.1 (isB_wrb (hB.1.2.2 m i)), hB.2⟩, hD⟩
end IBY
