/-! PURE: arithmetic and relations of longs that values are. -/
section HAR
variable {nm : Nat} {tb : Nat → Prop} {kb vb : Int32 → Int32} {en : Nat → Nat} {T U : tyT} {c v w : Int64} {t x : tyV} {G : Prop} {reg : Nat → Int64} {rc : tyV → Int64}
theorem nz_7 : ∀ m, m < 4 → ∀ i, i < 64 → ¬ rc_ (7, 0, m, i) = 0 ∧ ¬ rr_ (7, 0, m, i) = 0 := by decide +kernel
/-- what is asked of the longs -/
def rcG (rc : tyV → Int64) : Prop := (∀ t : tyV, t.1 = 1 → rc t = t.2.1) ∧ (∀ (t : tyV) (w : Int64), ty_ptr t → rc t + w = rc (t.1, t.2.1 + w, t.2.2)) ∧ (∀ t : tyV, t.1 = 4 ∨ t.1 = 5 → rc t = 3298534883328 + t.2.1) ∧ ∀ m, m < 4 → ∀ i, i < 64 → ¬ rc (7, 0, m, i) = 0
theorem rel_rG (hrc : rcG rc) (hI : tyI nm en T) (hm : mpz nm kb vb en) (ho : ty_rel c T = some G) : hldn (d_opn c) (d_nar c) (rc (tyC T (d_ti c))) (rc (ty_op c T)) ↔ G := by
  obtain ⟨h1, h2, h3, h4⟩ := hrc
  unfold ty_rel at ho
  have h7 : ∀ t : tyV, (t.1 = 7 → t.2.2.1 < nm ∧ t.2.2.2 < en t.2.2.1) → t.1 = 7 → t.2.1 = 0 → ¬ rc t = 0 := by
    intro t hi k z
    obtain ⟨m1, m2⟩ := hi k
    have e : t = (7, 0, t.2.2.1, t.2.2.2) := by rw [← k, ← z]
    rw [e]
    have n4 := hm.1
    have e6 := (hm.2 _ m1).2.2
    exact h4 _ (by omega) _ (by omega)
  by_cases a : (tyC T (d_ti c)).1 = 1 ∧ (ty_op c T).1 = 1
  · rw [if_pos a] at ho
    rw [h1 _ a.1, h1 _ a.2, ← Option.some.inj ho]
  rw [if_neg a] at ho
  by_cases n0 : ¬ d_nar c = 0
  · rw [if_pos n0] at ho; cases ho
  rw [if_neg n0] at ho
  have n0 : d_nar c = 0 := Classical.not_not.mp n0
  unfold hldn
  rw [if_pos n0]
  by_cases b : (d_opn c = 0 ∨ d_opn c = 4) ∧ (((tyC T (d_ti c)).1 = 7 ∧ (ty_op c T).1 = 1 ∧ (ty_op c T).2.1 = 0 ∧ (tyC T (d_ti c)).2.1 = 0) ∨ ((tyC T (d_ti c)).1 = 1 ∧ (tyC T (d_ti c)).2.1 = 0 ∧ (ty_op c T).1 = 7 ∧ (ty_op c T).2.1 = 0))
  · rw [if_pos b] at ho
    have ne : ¬ rc (tyC T (d_ti c)) = rc (ty_op c T) := by
      rcases b.2 with ⟨b1, b2, b3, b4⟩ | ⟨b1, b2, b3, b4⟩
      · rw [h1 _ b2, b3]
        exact h7 _ (hI _) b1 b4
      · rw [h1 _ b1, b2]
        exact fun z => h7 _ (op_I hI) b3 b4 z.symm
    rw [← Option.some.inj ho]
    rcases b.1 with o | o
    · rw [o, hld_0]
      exact ⟨fun z => absurd z ne, fun z => absurd z (by decide)⟩
    · rw [o, hld_4]
      exact ⟨fun _ => rfl, fun _ => ne⟩
  rw [if_neg b] at ho
  by_cases d : (d_opn c = 1 ∨ d_opn c = 2 ∨ d_opn c = 7 ∨ d_opn c = 8) ∧ (((tyC T (d_ti c)).1 = 4 ∧ (ty_op c T).1 = 5) ∨ ((tyC T (d_ti c)).1 = 5 ∧ (ty_op c T).1 = 4))
  · rw [if_pos d] at ho
    rw [← Option.some.inj ho]
    rcases d.2 with ⟨d1, d2⟩ | ⟨d1, d2⟩
    · rw [h3 _ (Or.inl d1), h3 _ (Or.inr d2)]
    · rw [h3 _ (Or.inr d1), h3 _ (Or.inl d2)]
  · rw [if_neg d] at ho; cases ho
theorem ov_0 {a b : Int64} : ov 0 a b = a + b := rfl
theorem ov_1 {a b : Int64} : ov 1 a b = a - b := rfl
theorem ov_12 {a b : Int64} : ov 12 a b = b := rfl
theorem ovn_12 {a d b : Int64} : ovn 12 a b = ovn 12 d b := by
  unfold ovn
  rw [if_neg (by decide), if_neg (by decide), ov_12, ov_12, if_pos (by decide), if_neg (by decide)]
theorem opn_01 (f6 : d_fam c = 6) (h : ¬ 1 < d_opn c) : d_opn c = 0 ∨ d_opn c = 1 := by
  obtain ⟨k, hk1, hk2⟩ := d_lt c
  have hop : d_opn c ∈ ([0, 1, 2, 3, 4, 5, 6, 7, 8, 9, 10, 11, 12, 13, 14] : List Int32) := by
    unfold d_opn; rw [hk2]
    unfold d_fam at f6; rw [hk2] at f6
    exact t_ar1 k hk1 f6
  generalize d_opn c = op at hop h ⊢
  have t : ∀ op, op ∈ ([0, 1, 2, 3, 4, 5, 6, 7, 8, 9, 10, 11, 12, 13, 14] : List Int32) → ¬ 1 < op → op = 0 ∨ op = 1 := by decide
  exact t op hop h
theorem sub_c (d a b : Int64) : d + a - (d + b) = a - b := un_inj (by
  have h1 := un_lt d
  have h2 := un_lt a
  have h3 := un_lt b
  rw [un_sub, un_add, un_add, un_sub]
  omega)
theorem ari_rG (hrc : rcG rc) (f6 : d_fam c = 6) (hI : tyI nm en T) (ho : ty_ari c T = some U) (h0 : ¬ d_opn c = 12 → ¬ (tyC T (d_ti c)).1 = 0) (hx0 : ¬ (ty_op c T).1 = 0) {a : Int64} (ha : ¬ d_opn c = 12 → a = rc (tyC T (d_ti c))) : ∃ t, U = ty_set T (d_ti c) t ∧ ¬ t.1 = 0 ∧ (t.1 = 7 → t.2.2.1 < nm ∧ t.2.2.2 < en t.2.2.1) ∧ (if d_nar c = 0 then ov (d_opn c) a (rc (ty_op c T)) else ovn (d_opn c) a (rc (ty_op c T))) = rc t := by
  obtain ⟨h1, h2, h3, h4⟩ := hrc
  unfold ty_ari at ho
  by_cases m0 : d_opn c = 12 ∧ d_nar c = 0
  · rw [if_pos m0] at ho
    refine ⟨_, (Option.some.inj ho).symm, hx0, op_I hI, ?_⟩
    rw [if_pos m0.2, m0.1, ov_12]
  rw [if_neg m0] at ho
  by_cases b : (ty_op c T).1 = 1 ∧ ((tyC T (d_ti c)).1 = 1 ∨ d_opn c = 12)
  · rw [if_pos b] at ho
    refine ⟨_, (Option.some.inj ho).symm, by show ¬ (1 : Int32) = 0; decide, fun z => absurd (show (1 : Int32) = 7 from z) (by decide), ?_⟩
    rw [h1 (ty_n _) rfl, h1 _ b.1]
    by_cases m : d_opn c = 12
    · have nn : ¬ d_nar c = 0 := fun z => m0 ⟨m, z⟩
      rw [if_neg nn, if_neg nn, m]
      exact ovn_12
    · have k1 : (tyC T (d_ti c)).1 = 1 := b.2.resolve_right m
      rw [ha m, h1 _ k1]
  rw [if_neg b] at ho
  by_cases g : ¬ d_nar c = 0 ∨ 1 < d_opn c
  · rw [if_pos g] at ho; cases ho
  rw [if_neg g] at ho
  have n0 : d_nar c = 0 := Classical.not_not.mp (fun z => g (Or.inl z))
  have o1 : ¬ 1 < d_opn c := fun z => g (Or.inr z)
  have n12 : ¬ d_opn c = 12 := fun z => o1 (by rw [z]; decide)
  have a0 := ha n12
  rw [if_pos n0]
  by_cases p1 : ty_ptr (tyC T (d_ti c)) ∧ (ty_op c T).1 = 1
  · rw [if_pos p1] at ho
    refine ⟨_, (Option.some.inj ho).symm, h0 n12, hI _, ?_⟩
    rw [h1 _ p1.2, a0]
    have opn : d_opn c = 1 ∨ d_opn c = 0 ∨ (¬ d_opn c = 1 ∧ ¬ d_opn c = 0) := by
      by_cases z : d_opn c = 1
      · exact Or.inl z
      · by_cases z2 : d_opn c = 0
        · exact Or.inr (Or.inl z2)
        · exact Or.inr (Or.inr ⟨z, z2⟩)
    rcases opn with o | o | o
    · rw [o]
      rw [ov_1, if_pos rfl, Int64.sub_eq_add_neg, h2 _ _ p1.1, ← Int64.sub_eq_add_neg]
    · rw [o]
      rw [ov_0, if_neg (by decide), h2 _ _ p1.1]
    · exact absurd (opn_01 f6 o1) (fun z => z.elim o.2 o.1)
  rw [if_neg p1] at ho
  by_cases p2 : d_opn c = 0 ∧ (tyC T (d_ti c)).1 = 1 ∧ ty_ptr (ty_op c T)
  · rw [if_pos p2] at ho
    refine ⟨_, (Option.some.inj ho).symm, hx0, op_I hI, ?_⟩
    rw [a0, h1 _ p2.2.1, p2.1]
    rw [ov_0, Int64.add_comm, h2 _ _ p2.2.2]
  rw [if_neg p2] at ho
  by_cases p3 : ty_ofp (tyC T (d_ti c)) ∧ ty_ofp (ty_op c T) ∧ d_opn c = 1
  · rw [if_pos p3] at ho
    refine ⟨_, (Option.some.inj ho).symm, by show ¬ (1 : Int32) = 0; decide, fun z => absurd (show (1 : Int32) = 7 from z) (by decide), ?_⟩
    rw [a0, h3 _ p3.1, h3 _ p3.2.1, p3.2.2, h1 (ty_n _) rfl, ov_1, sub_c]
  · rw [if_neg p3] at ho; cases ho
end HAR
