/-! PURE: the checks of mode 0: its state tells the kinds. -/
def kSt (S u : Nat) (K W : Nat → Int32) (M : me_M) : Prop := (mR M 6 0 0 = some 0 ∧ mR M 6 0 1 = some 0 ∧ mR M 6 0 2 = some S ∧ mR M 6 0 3 = some S) ∧ (mR M 9 S 0 = some S ∧ mZ M 18 S = 75 ∧ ∀ i, i < 75 → mR M 18 S i = some (75 * S + i + 1)) ∧ us M S u ∧ (∀ i, i < 75 → mI M 10 (75 * S + i + 1) 0 = K i) ∧ ∀ i, 11 ≤ i → i < 75 → mI M 10 (75 * S + i + 1) 5 = W i
abbrev tyK (T : tyT) : Nat → Int32 := fun i => (tyC T i).1
section HCK
variable {S u i : Nat} {K K2 W W2 : Nat → Int32} {M N : me_M} {T U : tyT} {c : Int64} {x : Int32} {vb kb : Int32 → Int32} {nm : Nat} {tb : Nat → Prop} {en : Nat → Nat}
theorem kSt_c (h : kSt S u K W M) (h1 : ∀ i, i < 75 → K2 i = K i) (h2 : ∀ i, 11 ≤ i → i < 75 → W2 i = W i) : kSt S u K2 W2 M := ⟨h.1, h.2.1, h.2.2.1, fun i hi => (h.2.2.2.1 i hi).trans (h1 i hi).symm, fun i a hi => (h.2.2.2.2 i a hi).trans (h2 i a hi).symm⟩
theorem cv_w {d e f : Nat} (h : ¬ d = e) : cv (wI M 10 e f x) d = cv M d := by
  unfold cv
  rw [wI_o (fun z => h z.2)]
  rfl
theorem us_w {f : Nat} (h : us M S u) (hi : i < u) : us (wI M 10 (75 * S + i + 1) f x) S u := by
  refine ⟨h.1, h.2.1, by rw [wI_j (fun z => absurd z.1 (by decide))]; exact h.2.2.1, fun j a b => ?_⟩
  show cv _ _ = _
  rw [cv_w (by omega)]
  exact h.2.2.2 j a b
theorem sP_c (hi : i < 75) : sP S 10 (75 * S + i + 1) := Or.inr ⟨i, hi, cP0⟩
theorem kSt_0 (h : kSt S u K W M) (hi : i < u) : kSt S u (fup K i x) W (wI M 10 (75 * S + i + 1) 0 x) ∧ fr (sP S) M (wI M 10 (75 * S + i + 1) 0 x) := by
  have u75 := h.2.2.1.2.1
  refine ⟨⟨h.1, h.2.1, us_w h.2.2.1 hi, fun j hj => ?_, fun j a hj => ?_⟩, fr_I (sP_c (by omega))⟩
  · unfold fup
    by_cases e : j = i
    · rw [if_pos e, e, pI_same]
    · rw [if_neg e, wI_j (fun z => by omega)]
      exact h.2.2.2.1 j hj
  · rw [pI_place (by decide)]
    exact h.2.2.2.2 j a hj
theorem kSt_5 (h : kSt S u K W M) (hi : i < u) : kSt S u K (fup W i x) (wI M 10 (75 * S + i + 1) 5 x) ∧ fr (sP S) M (wI M 10 (75 * S + i + 1) 5 x) := by
  have u75 := h.2.2.1.2.1
  refine ⟨⟨h.1, h.2.1, us_w h.2.2.1 hi, fun j hj => ?_, fun j a hj => ?_⟩, fr_I (sP_c (by omega))⟩
  · rw [pI_place (by decide)]
    exact h.2.2.2.1 j hj
  · unfold fup
    by_cases e : j = i
    · rw [if_pos e, e, pI_same]
    · rw [if_neg e, wI_j (fun z => by omega)]
      exact h.2.2.2.2 j a hj
theorem kSt_slot (h : kSt S u K W M) {p : Int32} (h1 : -512 ≤ p.toInt) (h2 : p.toInt ≤ -1) : ∃ N v, f_State_slotAt M S p = some (N, 75 * S + sl p + 1) ∧ sl p < 75 ∧ 11 ≤ sl p ∧ sl p < v ∧ kSt S v K W N ∧ fr (sP S) M N ∧ mI N 2 = mI M 2 := by
  obtain ⟨q, hq, e1, e2, _⟩ := sl_of h1 h2
  obtain ⟨g1, ⟨g2, g3, g4⟩, hu, g5, g6⟩ := h
  unfold f_State_slotAt
  rw [e2, st_eq, st_eq, g2, bd_some, g3, gd_pos (ix_ok (by omega) (by decide)), nI_tn (by omega), g4 (11 + q) (by omega), bd_some, hu.2.2.1, nI_s]
  have eb : jimax (nI u) (nI (11 + q + 1)) = nI (max u (11 + q + 1)) := by
    unfold jimax
    have := hu.2.1
    by_cases g : u < 11 + q + 1
    · rw [if_pos ((nI_lti (by omega) (by omega)).mpr g), Nat.max_eq_right (by omega)]
    · rw [if_neg (fun z => g ((nI_lti (by omega) (by omega)).mp z)), Nat.max_eq_left (by omega)]
  rw [eb, e1]
  refine ⟨_, max u (11 + q + 1), rfl, by omega, by omega, by omega, ⟨g1, ⟨g2, g3, g4⟩, ⟨by have := hu.1; omega, by have := hu.2.1; omega, pI_same, ?_⟩, ?_, ?_⟩, fr_I (Or.inl ⟨rfl, rfl⟩), ?_⟩
  · intro i h3 h4
    show cv _ _ = _
    unfold cv
    rw [wI_o (fun z => absurd z.1 (by decide))]
    exact hu.2.2.2 i (by omega) h4
  · intro i hi
    rw [wI_j (fun z => absurd z.1 (by decide))]
    exact g5 i hi
  · intro i a hi
    rw [wI_j (fun z => absurd z.1 (by decide))]
    exact g6 i a hi
  · funext j
    exact wI_o (fun z => absurd z.1 (by decide))
theorem kSt_able {w : Int32} (h : kSt S u (tyK T) (tyM T) M) (h1 : 11 ≤ i) (h2 : i < 75) : f_Cell_isReadable M (75 * S + i + 1) w = some (M, ic (ty_able T i w) 1 0) := by
  unfold f_Cell_isReadable ty_able
  rw [h.2.2.2.1 i h2, h.2.2.2.2 i h1 h2]
  by_cases a : (tyC T i).1 = 1
  · rw [if_pos a, ic_t (Or.inl a)]
  · rw [if_neg a]
    by_cases b : (tyC T i).1 = 0
    · rw [if_pos b]
      by_cases d : tyM T i &&& w = w
      · rw [if_pos d, ic_t (Or.inr ⟨b, d⟩)]
      · rw [if_neg d, ic_f (fun z => z.elim a (fun q => d q.2))]
    · rw [if_neg b, ic_f (fun z => z.elim a (fun q => b q.1))]
theorem kSt_opk (h : kSt S u (tyK T) W M) (hk : lk M 0 c) (hf : d_fi c < 11) : f_Checks_operandKind M 0 = some (M, (ty_op c T).1) := by
  obtain ⟨q5, q6, q7, q8, q9, q10, q11, q12, q13, q14, q15⟩ := hk
  obtain ⟨kf, kf1, kf2, kf3⟩ := d_fi_n hf
  obtain ⟨⟨g0, _, _, g3⟩, ⟨_, g5, g6⟩, _, g7, _⟩ := h
  unfold f_Checks_operandKind ty_op
  rw [g0, bd_some, q15]
  by_cases a : d_rf c = 0
  · rw [if_pos a, if_pos a]
  · rw [if_neg a, if_neg a, g3, bd_some, q7, kf2, g5, nI_tn (by omega), gd_pos (show ¬ (nI kf < 0 ∨ 75 ≤ kf) from fun z => z.elim (nI_ps (by omega)) (fun q => by omega)), g6 kf (by omega), bd_some, g7 kf (by omega), kf3]
theorem up_K {n : Nat} {t : tyV} : ∀ i, i < 75 → tyK (ty_set T n t) i = fup (tyK T) n t.1 i := by
  intro i _
  show (fup (tyC T) n t i).1 = _
  unfold fup
  by_cases e : i = n
  · rw [if_pos e, if_pos e]
  · rw [if_neg e, if_neg e]
theorem same_K {n : Nat} {t : tyV} (h : t.1 = (tyC T n).1) : ∀ i, i < 75 → tyK (ty_set T n t) i = tyK T i := by
  intro i hi
  rw [up_K i hi]
  unfold fup
  by_cases e : i = n
  · rw [if_pos e, e]; exact h
  · rw [if_neg e]
theorem kari (h : kSt S u (tyK T) (tyM T) M) (hk : lk M 0 c) (f6 : d_fam c = 6) (ht : d_ti c < 11) (hf : d_fi c < 11) (ho : ty_ari c T = some U) : ∃ N, f_Checks_allowsArithmetic M 0 = some (N, 1) ∧ kSt S u (tyK U) (tyM U) N ∧ fr (sP S) M N := by
  have hop := kSt_opk h hk hf
  have hk2 := hk
  obtain ⟨q5, q6, q7, q8, q9, q10, q11, q12, q13, q14, q15⟩ := hk2
  obtain ⟨kt, kt1, kt2, kt3⟩ := d_ti_n ht
  obtain ⟨kf, kf1, kf2, kf3⟩ := d_fi_n hf
  have h2 := h
  obtain ⟨⟨g0, _, _, g3⟩, ⟨_, g5, g6⟩, hu, g7, _⟩ := h2
  have gt : ¬ (nI kt < 0 ∨ 75 ≤ kt) := fun z => z.elim (nI_ps (by omega)) (fun q => by omega)
  have gf : ¬ (nI kf < 0 ∨ 75 ≤ kf) := fun z => z.elim (nI_ps (by omega)) (fun q => by omega)
  have u11 := hu.1
  have e7 : mI M 10 (75 * S + kt + 1) 0 = (tyC T (d_ti c)).1 := by rw [g7 kt (by omega), kt3]
  have opk : ¬ (ty_op c T).1 = 1 → ¬ d_rf c = 0 ∧ ty_op c T = tyC T kf := by
    intro z
    unfold ty_op at z ⊢
    by_cases a : d_rf c = 0
    · rw [if_pos a] at z; exact absurd rfl z
    · rw [if_neg a, kf3]; exact ⟨a, rfl⟩
  unfold ty_ari at ho
  unfold f_Checks_allowsArithmetic
  rw [g3, bd_some, g0, bd_some, q6, kt2, g5, nI_tn (by omega), gd_pos gt, g6 kt (by omega), bd_some, hop, b2_some, q12]
  by_cases m : d_opn c = 12
  · obtain ⟨n1, n2⟩ := kSt_0 (x := (ty_op c T).1) h (show kt < u by omega)
    rw [if_pos m, st_eq]
    have e13 : mI (wI M 10 (75 * S + kt + 1) 0 (ty_op c T).1) 2 0 13 = d_nar c := by rw [wI_j (fun z => absurd z.1 (by decide))]; exact q13
    by_cases n0 : d_nar c = 0
    · rw [if_pos ⟨m, n0⟩] at ho
      have eU := (Option.some.inj ho).symm
      refine ⟨_, ?_, ?_, n2⟩
      · by_cases a : (ty_op c T).1 = 1
        · rw [if_pos a]
        · rw [if_neg a, e13, if_pos n0]
      · rw [eU, kt3]
        exact kSt_c n1 up_K (fun _ _ _ => rfl)
    · rw [if_neg (fun z => n0 z.2)] at ho
      by_cases b : (ty_op c T).1 = 1 ∧ ((tyC T (d_ti c)).1 = 1 ∨ d_opn c = 12)
      · rw [if_pos b] at ho
        have eU := (Option.some.inj ho).symm
        refine ⟨_, by rw [if_pos b.1], ?_, n2⟩
        rw [eU, kt3]
        rw [b.1] at n1 ⊢
        exact kSt_c n1 up_K (fun _ _ _ => rfl)
      · rw [if_neg b, if_pos (Or.inl n0)] at ho; cases ho
  rw [if_neg (fun z => m z.1)] at ho
  rw [if_neg m, e7]
  by_cases b : (ty_op c T).1 = 1 ∧ ((tyC T (d_ti c)).1 = 1 ∨ d_opn c = 12)
  · rw [if_pos b] at ho
    have k1 := b.2.resolve_right m
    have eU := (Option.some.inj ho).symm
    refine ⟨M, by rw [if_pos k1, if_pos b.1], ?_, fr_refl⟩
    rw [eU]
    exact kSt_c h (same_K k1.symm) (fun _ _ _ => rfl)
  rw [if_neg b] at ho
  have nb : ∀ {R1 R2 : Option (me_M × Int32)}, (if (tyC T (d_ti c)).1 = 1 then (if (ty_op c T).1 = 1 then R1 else R2) else R2) = R2 := by
    intro R1 R2
    by_cases a : (tyC T (d_ti c)).1 = 1
    · rw [if_pos a, if_neg (fun z => b ⟨z, Or.inl a⟩)]
    · rw [if_neg a]
  rw [nb]
  by_cases g : ¬ d_nar c = 0 ∨ 1 < d_opn c
  · rw [if_pos g] at ho; cases ho
  rw [if_neg g] at ho
  have n0 : d_nar c = 0 := Classical.not_not.mp (fun z => g (Or.inl z))
  have o1 : d_opn c ≤ 1 := by
    have : ¬ 1 < d_opn c := fun z => g (Or.inr z)
    rw [i32_lt] at this
    rw [i32_le]
    omega
  unfold f_Checks_allowsArithmetic_b71
  rw [g0, bd_some, q13, if_pos n0, q12, if_pos o1]
  by_cases p1 : ty_ptr (tyC T (d_ti c)) ∧ (ty_op c T).1 = 1
  · rw [if_pos p1] at ho
    have eU := (Option.some.inj ho).symm
    refine ⟨M, ?_, ?_, fr_refl⟩
    · rw [if_pos p1.2]
      unfold f_Cell_isPointer
      rw [e7]
      rcases p1.1 with k | k | k | k
      · rw [if_pos k, b2_some]
      · rw [if_neg (by rw [k]; decide), if_pos k, b2_some]
      · rw [if_neg (by rw [k]; decide), if_neg (by rw [k]; decide), if_pos k, b2_some]
      · rw [if_neg (by rw [k]; decide), if_neg (by rw [k]; decide), if_neg (by rw [k]; decide), if_pos k, b2_some]
    · rw [eU]
      exact kSt_c h (same_K rfl) (fun _ _ _ => rfl)
  rw [if_neg p1] at ho
  by_cases p2 : d_opn c = 0 ∧ (tyC T (d_ti c)).1 = 1 ∧ ty_ptr (ty_op c T)
  · rw [if_pos p2] at ho
    have eU := (Option.some.inj ho).symm
    have ne1 : ¬ (ty_op c T).1 = 1 := by rcases p2.2.2 with k | k | k | k <;> rw [k] <;> decide
    obtain ⟨a1, a2⟩ := opk ne1
    obtain ⟨n1, n2⟩ := kSt_0 (x := (ty_op c T).1) h (show kt < u by omega)
    have hptr : f_Cell_isPointer M (75 * S + kf + 1) = some (M, 1) := by
      unfold f_Cell_isPointer
      have ef : mI M 10 (75 * S + kf + 1) 0 = (ty_op c T).1 := by rw [g7 kf (by omega), a2]
      rw [ef]
      rcases p2.2.2 with k | k | k | k
      · rw [if_pos k]
      · rw [if_neg (by rw [k]; decide), if_pos k]
      · rw [if_neg (by rw [k]; decide), if_neg (by rw [k]; decide), if_pos k]
      · rw [if_neg (by rw [k]; decide), if_neg (by rw [k]; decide), if_neg (by rw [k]; decide), if_pos k]
    refine ⟨wI M 10 (75 * S + kt + 1) 0 (ty_op c T).1, ?_, ?_, n2⟩
    · rw [if_neg ne1, g3, bd_some, q7, kf2, g5, nI_tn (by omega), gd_pos gf, g6 kf (by omega), bd_some, if_pos p2.1, e7, if_pos p2.2.1, hptr, b2_some, if_neg (by decide)]
      unfold f_Checks_allowsArithmetic_b147
      rw [g0, bd_some, q12, if_neg (by rw [p2.1]; decide)]
      unfold f_Checks_allowsArithmetic_b178 f_Checks_allowsArithmetic_b179
      rw [if_neg (by decide), st_eq, if_neg (by decide)]
    · rw [eU, kt3]
      exact kSt_c n1 up_K (fun _ _ _ => rfl)
  rw [if_neg p2] at ho
  by_cases p3 : ty_ofp (tyC T (d_ti c)) ∧ ty_ofp (ty_op c T) ∧ d_opn c = 1
  · rw [if_pos p3] at ho
    have eU := (Option.some.inj ho).symm
    have ne1 : ¬ (ty_op c T).1 = 1 := by rcases p3.2.1 with k | k <;> rw [k] <;> decide
    obtain ⟨a1, a2⟩ := opk ne1
    obtain ⟨n1, n2⟩ := kSt_0 (x := 1) h (show kt < u by omega)
    have ofp : ∀ {j : Nat} {t : tyV}, mI M 10 j 0 = t.1 → ty_ofp t → f_Cell_isOfPacket M j = some (M, 1) := by
      intro j t e k
      unfold f_Cell_isOfPacket
      rw [e]
      rcases k with k | k
      · rw [if_pos k]
      · rw [if_neg (by rw [k]; decide), if_pos k]
    refine ⟨wI M 10 (75 * S + kt + 1) 0 1, ?_, ?_, n2⟩
    · rw [if_neg ne1, g3, bd_some, q7, kf2, g5, nI_tn (by omega), gd_pos gf, g6 kf (by omega), bd_some, if_neg (by rw [p3.2.2]; decide)]
      unfold f_Checks_allowsArithmetic_b146 f_Checks_allowsArithmetic_b147
      rw [g0, bd_some, q12, if_pos p3.2.2, ofp e7 p3.1, b2_some, if_neg (by decide), ofp (t := ty_op c T) (by rw [g7 kf (by omega), a2]) p3.2.1, b2_some, if_neg (by decide)]
      unfold f_Checks_allowsArithmetic_b179
      rw [if_pos rfl, st_eq, if_pos rfl, if_neg (by decide)]
    · rw [eU, kt3]
      exact kSt_c n1 up_K (fun _ _ _ => rfl)
  · rw [if_neg p3] at ho; cases ho
theorem krel {G : Prop} (h : kSt S u (tyK T) (tyM T) M) (hk : lk M 0 c) (f8 : d_fam c = 8) (ht : d_ti c < 11) (hf : d_fi c < 11) (z4 : mZ M 16 3 = 16) (hreg : ∀ i, i < 11 → ¬ (tyC T i).1 = 0 → mL M 16 3 i = rc_ (tyC T i)) (ho : ty_rel c T = some G) : f_Checks_allowsRelation M 0 3 = some (M, 1) := by
  have hop := kSt_opk h hk hf
  have hk2 := hk
  obtain ⟨q5, q6, q7, q8, q9, q10, q11, q12, q13, q14, q15⟩ := hk2
  obtain ⟨kt, kt1, kt2, kt3⟩ := d_ti_n ht
  obtain ⟨kf, kf1, kf2, kf3⟩ := d_fi_n hf
  obtain ⟨⟨g0, _, _, g3⟩, ⟨_, g5, g6⟩, hu, g7, _⟩ := h
  have gt : ¬ (nI kt < 0 ∨ 75 ≤ kt) := fun z => z.elim (nI_ps (by omega)) (fun q => by omega)
  have gt2 : ¬ (nI kt < 0 ∨ 16 ≤ kt) := fun z => z.elim (nI_ps (by omega)) (fun q => by omega)
  have gf2 : ¬ (nI kf < 0 ∨ 16 ≤ kf) := fun z => z.elim (nI_ps (by omega)) (fun q => by omega)
  have e7 : mI M 10 (75 * S + kt + 1) 0 = (tyC T (d_ti c)).1 := by rw [g7 kt (by omega), kt3]
  unfold ty_rel at ho
  unfold f_Checks_allowsRelation
  rw [g3, bd_some, g0, bd_some, q6, kt2, g5, nI_tn (by omega), gd_pos gt, g6 kt (by omega), bd_some, e7, st_eq, hop, b2_some]
  by_cases a : (tyC T (d_ti c)).1 = 1 ∧ (ty_op c T).1 = 1
  · rw [if_pos a.1, if_pos a.2]
  rw [if_neg a] at ho
  have nb : ∀ {R1 R2 : Option (me_M × Int32)}, (if (tyC T (d_ti c)).1 = 1 then (if (ty_op c T).1 = 1 then R1 else R2) else R2) = R2 := by
    intro R1 R2
    by_cases b : (tyC T (d_ti c)).1 = 1
    · rw [if_pos b, if_neg (fun z => a ⟨b, z⟩)]
    · rw [if_neg b]
  rw [nb]
  by_cases n0 : ¬ d_nar c = 0
  · rw [if_pos n0] at ho; cases ho
  rw [if_neg n0] at ho
  have n0 : d_nar c = 0 := Classical.not_not.mp n0
  unfold f_Checks_allowsRelation_b33
  rw [g0, bd_some, q13, if_pos n0, q12]
  by_cases b : (d_opn c = 0 ∨ d_opn c = 4) ∧ (((tyC T (d_ti c)).1 = 7 ∧ (ty_op c T).1 = 1 ∧ (ty_op c T).2.1 = 0 ∧ (tyC T (d_ti c)).2.1 = 0) ∨ ((tyC T (d_ti c)).1 = 1 ∧ (tyC T (d_ti c)).2.1 = 0 ∧ (ty_op c T).1 = 7 ∧ (ty_op c T).2.1 = 0))
  · have fin : f_Checks_allowsRelation_b66 0 3 M (tyC T (d_ti c)).1 (ty_op c T).1 = some (M, 1) := by
      unfold f_Checks_allowsRelation_b66
      rw [g0, bd_some, q15, q9, q7]
      have key : ∀ v : Int64, ((ty_op c T).1 = 1 → v = (ty_op c T).2.1) → f_Checks_allowsRelation_b96 0 3 M (tyC T (d_ti c)).1 (ty_op c T).1 v = some (M, 1) := by
        intro v hv
        unfold f_Checks_allowsRelation_b96
        rcases b.2 with ⟨b1, b2, b3, b4⟩ | ⟨b1, b2, b3, b4⟩
        · rw [if_pos b1, if_pos b2, hv b2, if_pos b3]
        · rw [if_neg (by rw [b1]; decide)]
          unfold f_Checks_allowsRelation_b116
          rw [if_pos b1, if_pos b3, g0, bd_some, q6, kt2, nI_tn (by omega), z4, gd_pos gt2, hreg kt (by omega) (by rw [← kt3, b1]; decide), ← kt3, rc_1 _ b1, if_pos b2]
      by_cases rf : d_rf c = 0
      · rw [if_pos rf]
        refine key _ (fun _ => ?_)
        unfold ty_op
        rw [if_pos rf]
        show (d_field c).toInt64 = d_fn c
        unfold d_fn
        rw [if_neg (by rcases b.1 with o | o <;> rw [o] <;> decide)]
      · rw [if_neg rf, kf2, nI_tn (by omega), z4, gd_pos gf2]
        refine key _ (fun z => ?_)
        unfold ty_op at z ⊢
        rw [if_neg rf] at z ⊢
        rw [kf3] at z ⊢
        rw [hreg kf (by omega) (by rw [z]; decide), rc_1 _ z]
    rcases b.1 with o | o
    · rw [if_pos o]; exact fin
    · rw [if_neg (by rw [o]; decide), if_pos o]; exact fin
  rw [if_neg b] at ho
  by_cases d : (d_opn c = 1 ∨ d_opn c = 2 ∨ d_opn c = 7 ∨ d_opn c = 8) ∧ (((tyC T (d_ti c)).1 = 4 ∧ (ty_op c T).1 = 5) ∨ ((tyC T (d_ti c)).1 = 5 ∧ (ty_op c T).1 = 4))
  · have fin : f_Checks_allowsRelation_b193 M (tyC T (d_ti c)).1 (ty_op c T).1 = some (M, 1) := by
      unfold f_Checks_allowsRelation_b193 f_Checks_allowsRelation_b198
      rw [if_neg (by decide)]
      rcases d.2 with ⟨d1, d2⟩ | ⟨d1, d2⟩
      · rw [if_pos d1, if_pos d2]
      · rw [if_neg (by rw [d1]; decide), if_pos d1, if_pos d2]
    rcases d.1 with o | o | o | o
    · rw [if_neg (by rw [o]; decide), if_neg (by rw [o]; decide), if_pos o]; exact fin
    · rw [if_neg (by rw [o]; decide), if_neg (by rw [o]; decide), if_neg (by rw [o]; decide), if_pos o]; exact fin
    · rw [if_neg (by rw [o]; decide), if_neg (by rw [o]; decide), if_neg (by rw [o]; decide), if_neg (by rw [o]; decide), if_pos o]; exact fin
    · rw [if_neg (by rw [o]; decide), if_neg (by rw [o]; decide), if_neg (by rw [o]; decide), if_neg (by rw [o]; decide), if_neg (by rw [o]; decide), if_pos o]; exact fin
  · rw [if_neg d] at ho; cases ho
end HCK
