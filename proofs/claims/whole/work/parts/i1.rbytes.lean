/-! PURE: the reference's memory of a run; bytes. -/
def rSh (nm : Nat) (tb : Nat → Prop) (kb vb : Int32 → Int32) (en : Nat → Nat) (M : me_M) : Prop := (mR M 1 0 5 = some 0 ∧ mR M 1 0 6 = some 1 ∧ mR M 1 0 7 = some 2 ∧ mR M 1 0 8 = some 3 ∧ mR M 1 0 9 = some 0 ∧ mR M 1 0 10 = some 1 ∧ mR M 1 0 11 = some 2 ∧ mR M 1 0 16 = some 1 ∧ mR M 1 0 17 = some 2 ∧ mR M 1 0 35 = some 3 ∧ mR M 1 0 36 = some 4 ∧ mR M 1 0 39 = some 4 ∧ mR M 1 0 43 = some 5 ∧ mR M 1 0 44 = some 5 ∧ mR M 1 0 45 = some 6 ∧ mR M 1 0 46 = some 7) ∧ (mZ M 13 0 = 4 ∧ mZ M 13 1 = 4 ∧ mZ M 13 2 = 4 ∧ mZ M 13 3 = 4 ∧ mZ M 14 1 = 4096 ∧ mZ M 14 2 = 16384 ∧ mZ M 14 3 = 2000 ∧ mZ M 14 4 = 64 ∧ mZ M 14 5 = 512 ∧ mZ M 14 6 = 64 ∧ mZ M 14 7 = 64 ∧ mZ M 15 0 = 256 ∧ mZ M 16 1 = 2000 ∧ mZ M 16 2 = 2000 ∧ mZ M 16 4 = 1000 ∧ mZ M 16 5 = 11) ∧ (nm ≤ 4 ∧ ∀ m, m < nm → mI M 13 1 m = nI (kn kb m) ∧ mI M 13 2 m = nI (kn vb m) ∧ mI M 13 3 m = nI (en m) ∧ mI M 13 0 m = ic (tb m) 1 0 ∧ (¬ tb m → kn kb m = 4) ∧ kn kb m ≤ 16 ∧ kn vb m ≤ 64 ∧ en m ≤ 64)
def rRl (nm : Nat) (tb : Nat → Prop) (kb vb : Int32 → Int32) (en : Nat → Nat) (T : tyT) (M : me_M) : Prop := rSh nm tb kb vb en M ∧ mo rr_ T (mL M 16 5) (mI M 14 5) (mI M 14 3) (mI M 1 0 34) (mI M 1 0 38) (mL M 16 4) (mL M 1 0 37) ∧ mst nm tb kb vb en (tyW T) (fun m i => mI M 15 0 (64 * m + i)) (fun m i b => mI M 14 1 (16 * (64 * m + i) + b)) (fun m i b => mI M 14 2 (64 * (64 * m + i) + b)) ∧ ∀ a, 16 ≤ a → a < 64 → mI M 14 4 a = uC (tyW T) a
/-- the array that a pointer is of, and where in it a place is -/
def rj (t : tyV) : Nat := if t.1 = 2 then 4 else if t.1 = 3 then 5 else if t.1 = 4 then 3 else 2
def rA (t : tyV) (pl : Int64) : Nat := if t.1 = 7 then 64 * (64 * t.2.2.1 + t.2.2.2) + pl.toNatClampNeg else ty_ad t pl
section IRB
variable {nm : Nat} {tb : Nat → Prop} {kb vb : Int32 → Int32} {en : Nat → Nat} {T U : tyT} {M N : me_M} {c v w X pl : Int64} {i n m s A b : Nat} {t x : tyV}
theorem l_c {k : Int64} (h1 : -1000000000000000 ≤ k.toInt) (h2 : k.toInt ≤ 100000000000000) (hX : X.toInt = k.toInt + (A : Int)) (hA : A < 100000) : (X - k).toInt32 = nI A := Int32.toInt_inj.mp (by
  have e : (X - k).toInt = (A : Int) := by
    rw [l_sub (by omega) (by omega) (by omega) (by omega)]
    omega
  rw [i64_of (by omega) (by omega), e, nI_int (by omega)])
theorem rb_2 (hS : rSh nm tb kb vb en M) (hX : X.toInt = 1099511627776 + (A : Int)) (hA : A < 64) : f_M_byteAt M 0 X = some (M, mI M 14 4 A &&& 255) := by
  obtain ⟨⟨r5, r6, r7, r8, r9, r10, r11, r16, r17, r35, r36, r39, r43, r44, r45, r46⟩, ⟨y0, y1, y2, y3, y4, y5, y6, y7, y8, y9, y10, y11, y12, y13, y14, y15⟩, _⟩ := hS
  unfold f_M_byteAt
  rw [if_pos (by rw [i64_lt]; show X.toInt < 4398046511104; omega), if_pos (by rw [i64_lt]; show X.toInt < 3298534883328; omega), if_pos (by rw [i64_lt]; show X.toInt < 2199023255040; omega), r36, bd_some, l_c (k := 1099511627776) (by decide) (by decide) hX (by omega), nI_tn (by omega), y7, gd_pos (show ¬ (nI A < 0 ∨ 64 ≤ A) from fun z => z.elim (nI_ps (by omega)) (fun q => by omega))]
theorem rb_3 (hS : rSh nm tb kb vb en M) (hX : X.toInt = 2199023255040 + (A : Int)) (hA : A < 512) : f_M_byteAt M 0 X = some (M, mI M 14 5 A &&& 255) := by
  obtain ⟨⟨r5, r6, r7, r8, r9, r10, r11, r16, r17, r35, r36, r39, r43, r44, r45, r46⟩, ⟨y0, y1, y2, y3, y4, y5, y6, y7, y8, y9, y10, y11, y12, y13, y14, y15⟩, _⟩ := hS
  have e : (X - 2199023255552 + 512).toInt32 = nI A := Int32.toInt_inj.mp (by
    have e1 : (X - 2199023255552).toInt = (A : Int) - 512 := by
      rw [l_sub (by omega) (by omega) (by decide) (by decide)]
      show X.toInt - 2199023255552 = _
      omega
    have e2 : (X - 2199023255552 + 512).toInt = (A : Int) := by
      rw [l_add (by omega) (by omega) (by decide) (by decide), e1]
      show (A : Int) - 512 + 512 = _
      omega
    rw [i64_of (by omega) (by omega), e2, nI_int (by omega)])
  unfold f_M_byteAt
  rw [if_pos (by rw [i64_lt]; show X.toInt < 4398046511104; omega), if_pos (by rw [i64_lt]; show X.toInt < 3298534883328; omega), if_neg (by rw [i64_lt]; show ¬ X.toInt < 2199023255040; omega), r44, bd_some, e, nI_tn (by omega), y8, gd_pos (show ¬ (nI A < 0 ∨ 512 ≤ A) from fun z => z.elim (nI_ps (by omega)) (fun q => by omega)), st_eq]
theorem rb_4 (hS : rSh nm tb kb vb en M) (hX : X.toInt = 3298534883328 + (A : Int)) (hA : A < 2000) : f_M_byteAt M 0 X = some (M, mI M 14 3 A &&& 255) := by
  obtain ⟨⟨r5, r6, r7, r8, r9, r10, r11, r16, r17, r35, r36, r39, r43, r44, r45, r46⟩, ⟨y0, y1, y2, y3, y4, y5, y6, y7, y8, y9, y10, y11, y12, y13, y14, y15⟩, _⟩ := hS
  unfold f_M_byteAt
  rw [if_pos (by rw [i64_lt]; show X.toInt < 4398046511104; omega), if_neg (by rw [i64_lt]; show ¬ X.toInt < 3298534883328; omega), r35, bd_some, l_c (k := 3298534883328) (by decide) (by decide) hX (by omega), nI_tn (by omega), y6, gd_pos (show ¬ (nI A < 0 ∨ 2000 ≤ A) from fun z => z.elim (nI_ps (by omega)) (fun q => by omega))]
theorem rb_7 (hS : rSh nm tb kb vb en M) (hX : X.toInt = 4398046511104 + (A : Int)) (hA : A < 16384) : f_M_byteAt M 0 X = some (M, mI M 14 2 A &&& 255) := by
  obtain ⟨⟨r5, r6, r7, r8, r9, r10, r11, r16, r17, r35, r36, r39, r43, r44, r45, r46⟩, ⟨y0, y1, y2, y3, y4, y5, y6, y7, y8, y9, y10, y11, y12, y13, y14, y15⟩, _⟩ := hS
  unfold f_M_byteAt
  rw [if_neg (by rw [i64_lt]; show ¬ X.toInt < 4398046511104; omega), r11, bd_some, l_c (k := 4398046511104) (by decide) (by decide) hX (by omega), nI_tn (by omega), y5, gd_pos (show ¬ (nI A < 0 ∨ 16384 ≤ A) from fun z => z.elim (nI_ps (by omega)) (fun q => by omega))]
theorem rs_3 (hS : rSh nm tb kb vb en M) (hX : X.toInt = 2199023255040 + (A : Int)) (hA : A < 512) {y : Int32} : f_M_setByte M 0 X y = some (wI M 14 5 A y.toInt8.toInt32) := by
  obtain ⟨⟨r5, r6, r7, r8, r9, r10, r11, r16, r17, r35, r36, r39, r43, r44, r45, r46⟩, ⟨y0, y1, y2, y3, y4, y5, y6, y7, y8, y9, y10, y11, y12, y13, y14, y15⟩, _⟩ := hS
  have e : (X - 2199023255552 + 512).toInt32 = nI A := Int32.toInt_inj.mp (by
    have e1 : (X - 2199023255552).toInt = (A : Int) - 512 := by
      rw [l_sub (by omega) (by omega) (by decide) (by decide)]
      show X.toInt - 2199023255552 = _
      omega
    have e2 : (X - 2199023255552 + 512).toInt = (A : Int) := by
      rw [l_add (by omega) (by omega) (by decide) (by decide), e1]
      show (A : Int) - 512 + 512 = _
      omega
    rw [i64_of (by omega) (by omega), e2, nI_int (by omega)])
  unfold f_M_setByte
  rw [if_pos (by rw [i64_lt]; show X.toInt < 4398046511104; omega), if_pos (by rw [i64_lt]; show X.toInt < 3298534883328; omega), r44, bd_some, e, nI_tn (by omega), y8, gd_pos (show ¬ (nI A < 0 ∨ 512 ≤ A) from fun z => z.elim (nI_ps (by omega)) (fun q => by omega)), st_eq, nar_b]
theorem rs_4 (hS : rSh nm tb kb vb en M) (hX : X.toInt = 3298534883328 + (A : Int)) (hA : A < 2000) {y : Int32} : f_M_setByte M 0 X y = some (wI M 14 3 A y.toInt8.toInt32) := by
  obtain ⟨⟨r5, r6, r7, r8, r9, r10, r11, r16, r17, r35, r36, r39, r43, r44, r45, r46⟩, ⟨y0, y1, y2, y3, y4, y5, y6, y7, y8, y9, y10, y11, y12, y13, y14, y15⟩, _⟩ := hS
  unfold f_M_setByte
  rw [if_pos (by rw [i64_lt]; show X.toInt < 4398046511104; omega), if_neg (by rw [i64_lt]; show ¬ X.toInt < 3298534883328; omega), r35, bd_some, l_c (k := 3298534883328) (by decide) (by decide) hX (by omega), nI_tn (by omega), y6, gd_pos (show ¬ (nI A < 0 ∨ 2000 ≤ A) from fun z => z.elim (nI_ps (by omega)) (fun q => by omega)), st_eq, nar_b]
theorem rs_7v (hS : rSh nm tb kb vb en M) (hX : X.toInt = 4398046511104 + (A : Int)) (hA : A < 16384) {y : Int32} : f_M_setByte M 0 X y = some (wI M 14 2 A y.toInt8.toInt32) := by
  obtain ⟨⟨r5, r6, r7, r8, r9, r10, r11, r16, r17, r35, r36, r39, r43, r44, r45, r46⟩, ⟨y0, y1, y2, y3, y4, y5, y6, y7, y8, y9, y10, y11, y12, y13, y14, y15⟩, _⟩ := hS
  unfold f_M_setByte
  rw [if_neg (by rw [i64_lt]; show ¬ X.toInt < 4398046511104; omega), r11, bd_some, l_c (k := 4398046511104) (by decide) (by decide) hX (by omega), nI_tn (by omega), y5, gd_pos (show ¬ (nI A < 0 ∨ 16384 ≤ A) from fun z => z.elim (nI_ps (by omega)) (fun q => by omega)), st_eq, nar_b]
theorem r_64 {m i : Nat} (hm : m < 4) (hi : i < 64) : (64 * (nI (64 * m + i)).toInt64 : Int64).toInt = 64 * (64 * (m : Int) + i) := by
  have e : (nI (64 * m + i)).toInt64.toInt = 64 * (m : Int) + i := by
    rw [nI_6 (by omega)]
    omega
  rw [Int64.toInt_mul, e, show (64 : Int64).toInt = 64 from rfl, Int.bmod_def]
  split <;> omega
/-- an address, b bytes on -/
theorem r_ad (hm : mpz nm kb vb en) (h7 : t.1 = 7 → t.2.2.1 < nm ∧ t.2.2.2 < en t.2.2.1) (hp : ty_ptr t) (hi : ty_in vb T t pl n) (hz : uZ (tyW T) ≤ 2000) (hb : b < n) (hn : n ≤ 512) : (t.1 = 2 → (rr_ (t.1, pl, t.2.2) + (nI b).toInt64).toInt = 1099511627776 + ((rA t pl + b : Nat) : Int) ∧ rA t pl + b < 64) ∧ (t.1 = 3 → (rr_ (t.1, pl, t.2.2) + (nI b).toInt64).toInt = 2199023255040 + ((rA t pl + b : Nat) : Int) ∧ rA t pl + b < 512) ∧ (t.1 = 4 → (rr_ (t.1, pl, t.2.2) + (nI b).toInt64).toInt = 3298534883328 + ((rA t pl + b : Nat) : Int) ∧ rA t pl + b < 2000) ∧ (t.1 = 7 → (rr_ (t.1, pl, t.2.2) + (nI b).toInt64).toInt = 4398046511104 + ((rA t pl + b : Nat) : Int) ∧ rA t pl + b < 16384 ∧ pl.toNatClampNeg + n ≤ 64) := by
  have eb := nI_6 (k := b) (by omega)
  unfold ty_in at hi
  unfold rr_ rc_ rA ty_ad
  refine ⟨fun k => ?_, fun k => ?_, fun k => ?_, fun k => ?_⟩
  · rw [if_pos k] at hi
    have tp := tn_pos hi.1
    have n7 : ¬ t.1 = 7 := by rw [k]; decide
    have n3 : ¬ t.1 = 3 := by rw [k]; decide
    rw [if_neg n7, if_pos k, if_neg n7, if_neg n3]
    show (1099511627776 + pl + (nI b).toInt64).toInt = _ ∧ _
    have e1 : (1099511627776 + pl).toInt = 1099511627776 + pl.toInt := by rw [l_add (by decide) (by decide) (by omega) (by omega)]; rfl
    rw [l_add (by omega) (by omega) (by omega) (by omega), e1, eb]
    omega
  · rw [if_neg (by rw [k]; decide), if_pos k] at hi
    have e5 : (pl + 512).toInt = pl.toInt + 512 := by rw [l_add (by omega) (by omega) (by decide) (by decide)]; rfl
    have tp := tn_pos (pl := pl + 512) (by omega)
    have n7 : ¬ t.1 = 7 := by rw [k]; decide
    have n2 : ¬ t.1 = 2 := by rw [k]; decide
    rw [if_neg n7, if_neg n2, if_pos k, if_neg n7, if_pos k]
    show (2199023255552 + pl + (nI b).toInt64).toInt = _ ∧ _
    have e1 : (2199023255552 + pl).toInt = 2199023255552 + pl.toInt := by rw [l_add (by decide) (by decide) (by omega) (by omega)]; rfl
    rw [l_add (by omega) (by omega) (by omega) (by omega), e1, eb]
    omega
  · rw [if_neg (by rw [k]; decide), if_neg (by rw [k]; decide), if_pos k] at hi
    have tp := tn_pos hi.1
    have n7 : ¬ t.1 = 7 := by rw [k]; decide
    have n2 : ¬ t.1 = 2 := by rw [k]; decide
    have n3 : ¬ t.1 = 3 := by rw [k]; decide
    rw [if_neg n7, if_neg n2, if_neg n3, if_pos (Or.inl k), if_neg n7, if_neg n3]
    show (3298534883328 + pl + (nI b).toInt64).toInt = _ ∧ _
    have e1 : (3298534883328 + pl).toInt = 3298534883328 + pl.toInt := by rw [l_add (by decide) (by decide) (by omega) (by omega)]; rfl
    rw [l_add (by omega) (by omega) (by omega) (by omega), e1, eb]
    omega
  · rw [if_neg (by rw [k]; decide), if_neg (by rw [k]; decide), if_neg (by rw [k]; decide)] at hi
    obtain ⟨m1, m2⟩ := h7 k
    have m4 := hm.1
    obtain ⟨_, ⟨v1, v2⟩, e64⟩ := hm.2 _ m1
    have tp := tn_pos hi.2.1
    have e6 := r_64 (m := t.2.2.1) (i := t.2.2.2) (by omega) (by omega)
    rw [if_pos k, if_pos k]
    show (4398046511104 + 64 * (nI (64 * t.2.2.1 + t.2.2.2)).toInt64 + pl + (nI b).toInt64).toInt = _ ∧ _
    generalize (64 * (nI (64 * t.2.2.1 + t.2.2.2)).toInt64 : Int64) = Q at e6
    have e1 : (4398046511104 + Q).toInt = 4398046511104 + Q.toInt := by rw [l_add (by decide) (by decide) (by omega) (by omega)]; rfl
    have e2 : (4398046511104 + Q + pl).toInt = 4398046511104 + Q.toInt + pl.toInt := by rw [l_add (by omega) (by omega) (by omega) (by omega), e1]
    rw [l_add (by omega) (by omega) (by omega) (by omega), e2, eb]
    omega
theorem r_byte (hS : rSh nm tb kb vb en M) (hm : mpz nm kb vb en) (h7 : t.1 = 7 → t.2.2.1 < nm ∧ t.2.2.2 < en t.2.2.1) (hp : ty_ptr t) (hi : ty_in vb T t pl n) (hz : uZ (tyW T) ≤ 2000) (hb : b < n) (hn : n ≤ 512) : f_M_byteAt M 0 (rr_ (t.1, pl, t.2.2) + (nI b).toInt64) = some (M, mI M 14 (rj t) (rA t pl + b) &&& 255) := by
  obtain ⟨a2, a3, a4, a7⟩ := r_ad hm h7 hp hi hz hb hn
  unfold rj
  rcases hp with k | k | k | k
  · rw [if_pos k]
    exact rb_2 hS (a2 k).1 (a2 k).2
  · rw [if_neg (by rw [k]; decide), if_pos k]
    exact rb_3 hS (a3 k).1 (a3 k).2
  · rw [if_neg (by rw [k]; decide), if_neg (by rw [k]; decide), if_pos k]
    exact rb_4 hS (a4 k).1 (a4 k).2
  · rw [if_neg (by rw [k]; decide), if_neg (by rw [k]; decide), if_neg (by rw [k]; decide)]
    exact rb_7 hS (a7 k).1 (a7 k).2.1
theorem r_rd_l (hS : rSh nm tb kb vb en M) (hm : mpz nm kb vb en) (h7 : t.1 = 7 → t.2.2.1 < nm ∧ t.2.2.2 < en t.2.2.1) (hp : ty_ptr t) (hi : ty_in vb T t pl n) (hz : uZ (tyW T) ≤ 2000) (hn : n ≤ 512) : ∀ (i fu : Nat) (v : Int64), i ≤ n → i < fu → f_M_read_l50 0 (rr_ (t.1, pl, t.2.2)) fu M v (nI i + -1) = some (M, yn (mI M 14 (rj t)) (rA t pl) i v) := by
  intro i
  induction i with
  | zero =>
    intro fu v _ hf
    obtain ⟨fu, rfl⟩ : ∃ f, fu = f + 1 := ⟨fu - 1, by omega⟩
    rw [f_M_read_l50, if_pos (show nI 0 + -1 < 0 by decide)]
    rfl
  | succ i ih =>
    intro fu v hi2 hf
    obtain ⟨fu, rfl⟩ : ∃ f, fu = f + 1 := ⟨fu - 1, by omega⟩
    rw [nI_dec, f_M_read_l50, if_neg (nI_ps (by omega)), r_byte hS hm h7 hp hi hz (by omega) hn, b2_some, st_eq, ih fu _ (by omega) (by omega)]
    rfl
theorem fr14_S {j : Nat} (h : fr (fun k i => k = 14 ∧ i = j) M N) (hS : rSh nm tb kb vb en M) : rSh nm tb kb vb en N := by
  unfold rSh at hS ⊢
  rw [h.1, h.2.2.1, h.2.2.2.1 13 0 (fun z => absurd z.1 (by decide)), h.2.2.2.1 13 1 (fun z => absurd z.1 (by decide)), h.2.2.2.1 13 2 (fun z => absurd z.1 (by decide)), h.2.2.2.1 13 3 (fun z => absurd z.1 (by decide))]
  exact hS
theorem r_wr_l (hS : rSh nm tb kb vb en M) (hm : mpz nm kb vb en) (h7 : t.1 = 7 → t.2.2.1 < nm ∧ t.2.2.2 < en t.2.2.1) (hp : ty_ptr t) (h2 : ¬ t.1 = 2) (hi : ty_in vb T t pl n) (hz : uZ (tyW T) ≤ 2000) (hn : n ≤ 8) : ∀ (k i fu : Nat) (N : me_M), i + k = n → k < fu → fr (fun k j => k = 14 ∧ j = rj t) M N → (∀ x, mI N 14 (rj t) x = wrb (mI M 14 (rj t)) (rA t pl) i v x) → ∃ N1, f_M_write_l3 0 (rr_ (t.1, pl, t.2.2)) v (nI n) fu N (nI i) = some N1 ∧ fr (fun k j => k = 14 ∧ j = rj t) M N1 ∧ ∀ x, mI N1 14 (rj t) x = wrb (mI M 14 (rj t)) (rA t pl) n v x := by
  intro k
  induction k with
  | zero =>
    intro i fu N e hf g hx
    obtain ⟨fu, rfl⟩ : ∃ f, fu = f + 1 := ⟨fu - 1, by omega⟩
    rw [f_M_write_l3, if_pos (show nI n ≤ nI i from (nI_lei (by omega) (by omega)).mpr (by omega))]
    rw [show i = n by omega] at hx
    exact ⟨N, rfl, g, hx⟩
  | succ k ih =>
    intro i fu N e hf g hx
    obtain ⟨fu, rfl⟩ : ∃ f, fu = f + 1 := ⟨fu - 1, by omega⟩
    have hSN := fr14_S g hS
    obtain ⟨a2, a3, a4, a7⟩ := r_ad hm h7 hp hi hz (show i < n by omega) (by omega)
    have hset : f_M_setByte N 0 (rr_ (t.1, pl, t.2.2) + (nI i).toInt64) ((jlshr v (8 * nI i)).toInt32) = some (wI N 14 (rj t) (rA t pl + i) (jlshr v (8 * nI i)).toInt32.toInt8.toInt32) := by
      unfold rj
      rcases hp with k | k | k | k
      · exact absurd k h2
      · rw [if_neg (by rw [k]; decide), if_pos k]
        exact rs_3 hSN (a3 k).1 (a3 k).2
      · rw [if_neg (by rw [k]; decide), if_neg (by rw [k]; decide), if_pos k]
        exact rs_4 hSN (a4 k).1 (a4 k).2
      · rw [if_neg (by rw [k]; decide), if_neg (by rw [k]; decide), if_neg (by rw [k]; decide)]
        exact rs_7v hSN (a7 k).1 (a7 k).2.1
    rw [f_M_write_l3, if_neg (show ¬ nI n ≤ nI i from fun z => by have := (nI_lei (by omega) (by omega)).mp z; omega), hset, bd_some, nI_s, yb_s (by omega)]
    refine ih (i + 1) fu _ (by omega) (by omega) (fr_trans g (fr_I ⟨rfl, rfl⟩)) ?_
    intro x
    by_cases ex : x = rA t pl + i
    · rw [ex, pI_same]
      unfold wrb
      rw [if_pos (by omega), show rA t pl + i - rA t pl = i by omega]
    · rw [pI_place ex, hx x]
      unfold wrb
      by_cases c : rA t pl ≤ x ∧ x < rA t pl + i
      · rw [if_pos c, if_pos (by omega)]
      · rw [if_neg c, if_neg (by omega)]
theorem r_wr (hS : rSh nm tb kb vb en M) (hm : mpz nm kb vb en) (h7 : t.1 = 7 → t.2.2.1 < nm ∧ t.2.2.2 < en t.2.2.1) (hp : ty_ptr t) (h2 : ¬ t.1 = 2) (hi : ty_in vb T t pl n) (hz : uZ (tyW T) ≤ 2000) (hn : n ≤ 8) : ∃ N1, f_M_write M 0 (rr_ (t.1, pl, t.2.2)) v (nI n) = some N1 ∧ fr (fun k j => k = 14 ∧ j = rj t) M N1 ∧ mI N1 14 (rj t) = wrb (mI M 14 (rj t)) (rA t pl) n v := by
  unfold f_M_write
  obtain ⟨N, n1, n2, n3⟩ := r_wr_l (v := v) hS hm h7 hp h2 hi hz hn n 0 fuel M (by omega) (by unfold fuel; omega) fr_refl (fun x => by unfold wrb; rw [if_neg (by omega)])
  exact ⟨N, n1, n2, funext n3⟩
theorem rr_1 : ∀ t : tyV, t.1 = 1 → rr_ t = t.2.1 := by
  intro t h
  unfold rr_
  rw [if_neg (by rw [h]; decide), rc_1 t h]
theorem rr_add (hp : ty_ptr t) {w : Int64} : rr_ t + w = rr_ (t.1, t.2.1 + w, t.2.2) := by
  unfold rr_
  by_cases k : t.1 = 7
  · rw [if_pos k, if_pos k, Int64.add_assoc]
  · rw [if_neg k, if_neg k, rc_add hp]
theorem rr_pk (k : t.1 = 4 ∨ t.1 = 5) : rr_ t = 3298534883328 + t.2.1 := by
  unfold rr_ rc_
  rw [if_neg (by rcases k with k | k <;> rw [k] <;> decide), if_neg (by rcases k with k | k <;> rw [k] <;> decide), if_neg (by rcases k with k | k <;> rw [k] <;> decide), if_pos k]
theorem rcG_r : rcG rr_ := ⟨rr_1, fun t w h => rr_add h, fun t h => rr_pk h, fun m hm i hi => (nz_7 m hm i hi).2⟩
end IRB
