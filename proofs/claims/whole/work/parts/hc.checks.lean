/-! PURE: the checks of mode 0: memory; all of it. -/
section HCN
variable {S u i n A s : Nat} {K K2 W W2 : Nat → Int32} {M N : me_M} {T U : tyT} {c pl : Int64} {x : Int32} {vb kb : Int32 → Int32} {nm : Nat} {tb : Nat → Prop} {en jk jv jh : Nat → Nat} {p : Nat → Int64} {t X : tyV}
theorem ab_of {j : Nat} {w : Int32} (h1 : mI M 10 j 0 = (tyC T i).1) (h2 : mI M 10 j 5 = tyM T i) : f_Cell_isReadable M j w = some (M, ic (ty_able T i w) 1 0) := by
  unfold f_Cell_isReadable ty_able
  rw [h1, h2]
  by_cases a : (tyC T i).1 = 1
  · rw [if_pos a, ic_t (Or.inl a)]
  · rw [if_neg a]
    by_cases b : (tyC T i).1 = 0
    · rw [if_pos b]
      by_cases d : tyM T i &&& w = w
      · rw [if_pos d, ic_t (Or.inr ⟨b, d⟩)]
      · rw [if_neg d, ic_f (fun z => z.elim a (fun q => d q.2))]
    · rw [if_neg b, ic_f (fun z => z.elim a (fun q => b q.1))]
theorem rem_6 (h1 : -1000000 ≤ pl.toInt) (h2 : pl.toInt ≤ 1000000) (hr : jirem pl.toInt32 (d_by c) = 0) : jlrem pl (d_by c).toInt64 = 0 := by
  have nb := nn_by c
  have e := i64_of (v := pl) (by omega) (by omega)
  have ep : pl = pl.toInt32.toInt64 := Int64.toInt_inj.mp (by rw [l_of, e])
  have d1 := (rem_i (a := pl.toInt32) (b := d_by c) (by omega) (by omega) (by omega) (by omega)).mp hr
  rw [ep]
  exact (rem_l (by omega) (by omega) (by omega) (by omega)).mpr d1
theorem by_nz : (d_by c).toInt64 ≠ 0 := by
  have nb := nn_by c
  intro z
  have : (d_by c).toInt64.toInt = 0 := by rw [z]; rfl
  rw [l_of] at this
  omega
theorem rc_pl (k : Int64) (w : Int64) : k + w - k = w := by
  rw [Int64.sub_eq_add_neg, Int64.add_comm k w, Int64.add_assoc, Int64.add_right_neg, Int64.add_zero]
theorem sto_M : tyM (ty_sto c T pl X) = fup (tyM T) (sl pl.toInt32) (if d_by c = 8 then 0 else if (tyC T (sl pl.toInt32)).1 = 0 then tyM T (sl pl.toInt32) ||| d_bm c pl.toInt32 else if (tyC T (sl pl.toInt32)).1 = 1 then 255 ||| d_bm c pl.toInt32 else d_bm c pl.toInt32) := by
  unfold ty_sto
  by_cases e : d_by c = 8
  · rw [if_pos e, if_pos e]
  · rw [if_neg e, if_neg e]
theorem fup_2 {α : Type} {g : Nat → α} {a b : α} : fup (fup g i a) i b = fup g i b := by
  funext j
  unfold fup
  by_cases e : j = i
  · rw [if_pos e, if_pos e]
  · rw [if_neg e, if_neg e, if_neg e]
theorem fup_at {α : Type} {g : Nat → α} {a : α} : fup g i a i = a := if_pos rfl
/-- the slot's kind and mask are changed as for bytes -/
theorem kbytes {w : Int32} (h : kSt S u (tyK T) (tyM T) M) (h1 : 11 ≤ i) (h2 : i < u) : ∃ N, f_Cell_storeBytes M (75 * S + i + 1) w = some N ∧ kSt S u (fup (tyK T) i 0) (fup (tyM T) i (if (tyC T i).1 = 0 then tyM T i ||| w else if (tyC T i).1 = 1 then 255 ||| w else w)) N ∧ fr (sP S) M N := by
  have u75 := h.2.2.1.2.1
  unfold f_Cell_storeBytes
  rw [h.2.2.2.1 i (by omega), h.2.2.2.2 i h1 (by omega)]
  by_cases a : (tyC T i).1 = 0
  · obtain ⟨n1, n2⟩ := kSt_5 (x := tyM T i ||| w) h h2
    rw [if_pos a, st_eq, if_pos a]
    refine ⟨_, rfl, kSt_c n1 (fun j hj => ?_) (fun _ _ _ => rfl), n2⟩
    unfold fup
    by_cases e : j = i
    · rw [if_pos e, e]; exact a.symm
    · rw [if_neg e]
  · rw [if_neg a, if_neg a]
    have go : ∀ y : Int32, ∃ N, (st (wI M 10 (75 * S + i + 1) 5 y) (fun (M7 : me_M) => st (wI M7 10 (75 * S + i + 1) 0 0) (fun (M8 : me_M) => st (wI M8 10 (75 * S + i + 1) 5 ((mI M8 10 (75 * S + i + 1) 5) ||| w)) (fun (M9 : me_M) => some M9)))) = some N ∧ kSt S u (fup (tyK T) i 0) (fup (tyM T) i (y ||| w)) N ∧ fr (sP S) M N := by
      intro y
      obtain ⟨a1, a2⟩ := kSt_5 (x := y) h h2
      obtain ⟨b1, b2⟩ := kSt_0 (x := 0) a1 h2
      obtain ⟨c1, c2⟩ := kSt_5 (x := y ||| w) b1 h2
      rw [st_eq, st_eq, st_eq, pI_place (show ¬ 5 = 0 by decide), pI_same]
      refine ⟨_, rfl, kSt_c c1 (fun _ _ => rfl) (fun j _ _ => by rw [fup_2]), fr_trans a2 (fr_trans b2 c2)⟩
    by_cases b : (tyC T i).1 = 1
    · rw [if_pos b, if_pos b]
      exact go 255
    · rw [if_neg b, if_neg b]
      obtain ⟨N, n1, n2, n3⟩ := go 0
      rw [Int32.zero_or] at n2
      exact ⟨N, n1, n2, n3⟩
theorem kstk_l (h : kSt S u (tyK T) (tyM T) M) (hk : lk M 0 c) (f2 : d_fam c = 2) (ht : d_ti c < 11) (h1 : -512 ≤ pl.toInt) (h2 : pl.toInt + (d_nn c : Int) ≤ 0) (hr : jirem pl.toInt32 (d_by c) = 0) (hx : ((¬ (tyC T (sl pl.toInt32)).1 = 0 ∧ d_by c = 8) ∧ X.1 = (tyC T (sl pl.toInt32)).1) ∨ (¬ (¬ (tyC T (sl pl.toInt32)).1 = 0 ∧ d_by c = 8) ∧ ty_able T (sl pl.toInt32) (d_bm c pl.toInt32) ∧ X.1 = 1)) : ∃ N v, f_Checks_allowsStack M 0 pl = some (N, 1) ∧ kSt S v (fup (tyK T) (d_ti c) X.1) (tyM T) N ∧ fr (sP S) M N := by
  have nb := nn_by c
  have e32 := i64_of (v := pl) (by omega) (by omega)
  obtain ⟨N, v, s1, s2, s3, s4, s5, s6, s7⟩ := kSt_slot h (p := pl.toInt32) (by omega) (by omega)
  obtain ⟨q5, q6, q7, q8, q9, q10, q11, q12, q13, q14, q15⟩ := hk
  obtain ⟨kt, kt1, kt2, kt3⟩ := d_ti_n ht
  obtain ⟨⟨g0, _, gS, _⟩, _⟩ := h
  obtain ⟨⟨h0, _, _, h3⟩, ⟨_, h5, h6⟩, hu, h7, h8⟩ := s5
  have s5' : kSt S v (tyK T) (tyM T) N := ⟨⟨h0, by assumption, by assumption, h3⟩, ⟨by assumption, h5, h6⟩, hu, h7, h8⟩
  have u11 := hu.1
  have gt : ¬ (nI kt < 0 ∨ 75 ≤ kt) := fun z => z.elim (nI_ps (by omega)) (fun q => by omega)
  have c3 : ¬ pl < -512 := by rw [i64_lt]; show ¬ pl.toInt < -512; omega
  have c4 : ¬ 0 < pl + (d_by c).toInt64 := by
    rw [i64_lt, l_add (by omega) (by omega) (by rw [l_of]; omega) (by rw [l_of]; omega), l_of]
    show ¬ 0 < pl.toInt + (d_by c).toInt
    omega
  unfold f_Checks_allowsStack f_Code_bytesAt
  rw [if_neg c3, g0, bd_some, q11, if_neg c4, gd_pos by_nz, if_pos (rem_6 (by omega) (by omega) hr), gS, bd_some, s1, b2_some, s7, q11, b2_some, s7, q11]
  show ∃ N v, (if d_by c = 8 then f_Checks_allowsStack_b78 0 _ _ (d_bm c pl.toInt32) 1 else f_Checks_allowsStack_b78 0 _ _ (d_bm c pl.toInt32) 0) = some (N, 1) ∧ _
  have hb78 : ∀ {z : Int32}, f_Checks_allowsStack_b78 0 N (75 * S + sl pl.toInt32 + 1) (d_bm c pl.toInt32) z = (if z = 0 then f_Checks_allowsStack_b122 N (75 * S + sl pl.toInt32 + 1) (d_bm c pl.toInt32) z (75 * S + kt + 1) else (if (tyC T (sl pl.toInt32)).1 = 0 then f_Checks_allowsStack_b122 N (75 * S + sl pl.toInt32 + 1) (d_bm c pl.toInt32) z (75 * S + kt + 1) else f_Checks_allowsStack_b123 N (75 * S + sl pl.toInt32 + 1) (d_bm c pl.toInt32) z (tyC T (sl pl.toInt32)).1 (75 * S + kt + 1))) := by
    intro z
    unfold f_Checks_allowsStack_b78
    rw [h0, bd_some, s7, q10, if_pos f2, h3, bd_some, q6, kt2, h5, nI_tn (by omega), gd_pos gt, h6 kt (by omega), bd_some, h7 _ s2]
  have hrd : ∀ (y : Int32), f_Cell_isReadable (wI N 10 (75 * S + kt + 1) 0 y) (75 * S + sl pl.toInt32 + 1) (d_bm c pl.toInt32) = some (wI N 10 (75 * S + kt + 1) 0 y, ic (ty_able T (sl pl.toInt32) (d_bm c pl.toInt32)) 1 0) := by
    intro y
    exact ab_of (by rw [wI_j (fun z => by omega)]; exact h7 _ s2) (by rw [wI_j (fun z => by omega)]; exact h8 _ s3 s2)
  have k18 : ∀ (y : Int32), mI (wI N 10 (75 * S + kt + 1) 0 y) 10 (75 * S + sl pl.toInt32 + 1) 0 = (tyC T (sl pl.toInt32)).1 := fun y => by rw [wI_j (fun z => by omega), h7 _ s2]
  have fin : ∀ (y : Int32), kSt S v (fup (tyK T) (d_ti c) y) (tyM T) (wI N 10 (75 * S + kt + 1) 0 y) ∧ fr (sP S) M (wI N 10 (75 * S + kt + 1) 0 y) := by
    intro y
    obtain ⟨a, b⟩ := kSt_0 (x := y) s5' (show kt < v by omega)
    rw [kt3]
    exact ⟨a, fr_trans s6 b⟩
  rcases hx with ⟨⟨x1, x2⟩, x3⟩ | ⟨x1, x2, x3⟩
  · obtain ⟨f1, f3⟩ := fin (tyC T (sl pl.toInt32)).1
    rw [if_pos x2, hb78, if_neg (by decide), if_neg x1]
    unfold f_Checks_allowsStack_b123
    rw [st_eq, if_neg (by decide), k18, if_neg x1]
    refine ⟨_, v, rfl, ?_, f3⟩
    rw [x3]
    exact f1
  · obtain ⟨f1, f3⟩ := fin 1
    rw [x3]
    by_cases e8 : d_by c = 8
    · have k0 : (tyC T (sl pl.toInt32)).1 = 0 := Classical.byContradiction (fun z => x1 ⟨z, e8⟩)
      rw [if_pos e8, hb78, if_neg (by decide), if_pos k0]
      unfold f_Checks_allowsStack_b122 f_Checks_allowsStack_b123
      rw [st_eq, if_neg (by decide), k18, if_pos k0, hrd, ic_t x2, b2_some, if_neg (by decide)]
      exact ⟨_, v, rfl, f1, f3⟩
    · rw [if_neg e8, hb78, if_pos rfl]
      unfold f_Checks_allowsStack_b122 f_Checks_allowsStack_b123
      rw [st_eq, if_pos rfl, hrd, ic_t x2, b2_some, if_neg (by decide)]
      exact ⟨_, v, rfl, f1, f3⟩
theorem kstk_s (h : kSt S u (tyK T) (tyM T) M) (hk : lk M 0 c) (f2 : ¬ d_fam c = 2) (hf : d_fi c < 11) (h1 : -512 ≤ pl.toInt) (h2 : pl.toInt + (d_nn c : Int) ≤ 0) (hr : jirem pl.toInt32 (d_by c) = 0) (hx : (ty_op c T).1 = 1 ∨ (d_fam c = 3 ∧ d_by c = 8)) (hab : d_fam c = 5 → ty_able T (sl pl.toInt32) (d_bm c pl.toInt32)) (hX : X.1 = (ty_op c T).1) : ∃ N v, f_Checks_allowsStack M 0 pl = some (N, 1) ∧ kSt S v (tyK (ty_sto c T pl X)) (tyM (ty_sto c T pl X)) N ∧ fr (sP S) M N := by
  have nb := nn_by c
  have e32 := i64_of (v := pl) (by omega) (by omega)
  obtain ⟨N, v, s1, s2, s3, s4, s5, s6, s7⟩ := kSt_slot h (p := pl.toInt32) (by omega) (by omega)
  have hkN : lk N 0 c := lk_fr s6 hk
  have hop := kSt_opk s5 hkN hf
  obtain ⟨q5, q6, q7, q8, q9, q10, q11, q12, q13, q14, q15⟩ := hk
  obtain ⟨⟨g0, _, gS, _⟩, _⟩ := h
  have h0 := s5.1.1
  have c3 : ¬ pl < -512 := by rw [i64_lt]; show ¬ pl.toInt < -512; omega
  have c4 : ¬ 0 < pl + (d_by c).toInt64 := by
    rw [i64_lt, l_add (by omega) (by omega) (by rw [l_of]; omega) (by rw [l_of]; omega), l_of]
    show ¬ 0 < pl.toInt + (d_by c).toInt
    omega
  have hrd := kSt_able (w := d_bm c pl.toInt32) s5 s3 s2
  -- the end
  have fin : ∀ {z : Int32}, (z = 0 ↔ ¬ d_by c = 8) → ∃ N2, f_Checks_allowsStack_b211 0 N (75 * S + sl pl.toInt32 + 1) (d_bm c pl.toInt32) z = some (N2, 1) ∧ kSt S v (tyK (ty_sto c T pl X)) (tyM (ty_sto c T pl X)) N2 ∧ fr (sP S) M N2 := by
    intro z hz
    unfold f_Checks_allowsStack_b211
    by_cases e8 : d_by c = 8
    · rw [if_neg (fun q => hz.mp q e8), hop, b2_some, st_eq, st_eq]
      obtain ⟨a1, a2⟩ := kSt_0 (x := (ty_op c T).1) s5 s4
      obtain ⟨b1, b2⟩ := kSt_5 (x := 0) a1 s4
      refine ⟨_, rfl, kSt_c b1 (fun j hj => ?_) (fun j _ _ => ?_), fr_trans s6 (fr_trans a2 b2)⟩
      · show (tyC (ty_sto c T pl X) j).1 = _
        rw [sto_C, if_pos e8]
        unfold fup
        by_cases e : j = sl pl.toInt32
        · rw [if_pos e, if_pos e, hX]
        · rw [if_neg e, if_neg e]
      · rw [sto_M, if_pos e8]
    · obtain ⟨N2, a1, a2, a3⟩ := kbytes (w := d_bm c pl.toInt32) s5 s3 s4
      rw [if_pos (hz.mpr e8), a1, bd_some]
      refine ⟨_, rfl, kSt_c a2 (fun j hj => ?_) (fun j _ _ => ?_), fr_trans s6 a3⟩
      · show (tyC (ty_sto c T pl X) j).1 = _
        rw [sto_C, if_neg e8]
        unfold fup
        by_cases e : j = sl pl.toInt32
        · rw [if_pos e, if_pos e]
        · rw [if_neg e, if_neg e]
      · rw [sto_M, if_neg e8]
  have mid : ∀ {z : Int32}, (z = 0 ↔ ¬ d_by c = 8) → ∃ N2, f_Checks_allowsStack_b189 0 N (75 * S + sl pl.toInt32 + 1) (d_bm c pl.toInt32) z = some (N2, 1) ∧ kSt S v (tyK (ty_sto c T pl X)) (tyM (ty_sto c T pl X)) N2 ∧ fr (sP S) M N2 := by
    intro z hz
    unfold f_Checks_allowsStack_b189
    rw [h0, bd_some, s7, q10]
    by_cases f5 : d_fam c = 5
    · rw [if_pos f5, hrd, ic_t (hab f5), b2_some, if_neg (by decide)]
      exact fin hz
    · rw [if_neg f5]
      exact fin hz
  have all : ∀ {z : Int32}, (z = 0 ↔ ¬ d_by c = 8) → ∃ N2, f_Checks_allowsStack_b78 0 N (75 * S + sl pl.toInt32 + 1) (d_bm c pl.toInt32) z = some (N2, 1) ∧ kSt S v (tyK (ty_sto c T pl X)) (tyM (ty_sto c T pl X)) N2 ∧ fr (sP S) M N2 := by
    intro z hz
    unfold f_Checks_allowsStack_b78
    rw [h0, bd_some, s7, q10, if_neg f2, hop, b2_some]
    unfold f_Checks_allowsStack_b166
    by_cases k1 : (ty_op c T).1 = 1
    · rw [if_pos k1, if_neg (by decide)]
      exact mid hz
    · obtain ⟨f3, e8⟩ := hx.resolve_left k1
      rw [if_neg k1, if_pos rfl, if_neg (fun q => hz.mp q e8), h0, bd_some, s7, q10, if_neg (by rw [f3]; decide)]
      exact mid hz
  unfold f_Checks_allowsStack f_Code_bytesAt
  rw [if_neg c3, g0, bd_some, q11, if_neg c4, gd_pos by_nz, if_pos (rem_6 (by omega) (by omega) hr), gS, bd_some, s1, b2_some, s7, q11, b2_some, s7, q11]
  by_cases e8 : d_by c = 8
  · rw [if_pos e8]
    obtain ⟨N2, a1, a2, a3⟩ := all (z := 1) ⟨fun q => absurd q (by decide), fun q => absurd e8 q⟩
    exact ⟨N2, v, a1, a2, a3⟩
  · rw [if_neg e8]
    obtain ⟨N2, a1, a2, a3⟩ := all (z := 0) ⟨fun _ => e8, fun _ => rfl⟩
    exact ⟨N2, v, a1, a2, a3⟩
end HCN
