/-! PURE: what a number is, and what may change beside. -/
def pg (M : me_M) (j : Nat) : fn_N := (mL M 11 j 0, mL M 11 j 1, mL M 11 j 2, mL M 11 j 3, mL M 11 j 4, mL M 11 j 5)
/-- only numbers of S are changed -/
def pq (S : Nat → Prop) (M M1 : me_M) : Prop := mI M1 = mI M ∧ mR M1 = mR M ∧ mN M1 = mN M ∧ mZ M1 = mZ M ∧ ∀ k i f, ¬ (k = 11 ∧ S i) → mL M1 k i f = mL M k i f
section PC
variable {M : me_M} {i j q : Nat} {n1 n2 n3 n4 n5 n6 a b c d e f v w : Int64}
theorem pl_swap2 {k l f g : Nat} (h : ¬ (k = l ∧ f = g)) : wL (wL M 11 k f v) 11 l g w = wL (wL M 11 l g w) 11 k f v := me_ext rfl (by
  funext X Y Z
  show (if X = 11 ∧ Y = l ∧ Z = g then w else if X = 11 ∧ Y = k ∧ Z = f then v else mL M X Y Z) = if X = 11 ∧ Y = k ∧ Z = f then v else if X = 11 ∧ Y = l ∧ Z = g then w else mL M X Y Z
  by_cases h1 : X = 11 ∧ Y = k ∧ Z = f
  · rw [if_pos h1, if_pos h1, if_neg (fun r => h ⟨h1.2.1.symm.trans r.2.1, h1.2.2.symm.trans r.2.2⟩)]
  · rw [if_neg h1, if_neg h1]) rfl rfl rfl
theorem pn_wc (h : ¬ i = j) : wL (pn_put M j a b c d e f) 11 i q v = pn_put (wL M 11 i q v) j a b c d e f := by
  have z : ∀ N k w, wL (wL N 11 j k w) 11 i q v = wL (wL N 11 i q v) 11 j k w := fun N k w => pl_swap2 (fun r => h r.1.symm)
  unfold pn_put
  rw [z, z, z, z, z, z]
theorem pn_cm (h : ¬ i = j) : pn_put (pn_put M j a b c d e f) i n1 n2 n3 n4 n5 n6 = pn_put (pn_put M i n1 n2 n3 n4 n5 n6) j a b c d e f := by
  show wL (wL (wL (wL (wL (wL (pn_put M j a b c d e f) 11 i 0 n1) 11 i 1 n2) 11 i 2 n3) 11 i 3 n4) 11 i 4 n5) 11 i 5 n6 = _
  rw [pn_wc h, pn_wc h, pn_wc h, pn_wc h, pn_wc h, pn_wc h]
  rfl
end PC
section PQ
variable {M M1 M2 : me_M} {S T : Nat → Prop} {i j : Nat} {x : fn_N}
theorem pq_refl : pq S M M := ⟨rfl, rfl, rfl, rfl, fun _ _ _ _ => rfl⟩
theorem pq_trans (h : pq S M M1) (g : pq S M1 M2) : pq S M M2 := ⟨g.1.trans h.1, g.2.1.trans h.2.1, g.2.2.1.trans h.2.2.1, g.2.2.2.1.trans h.2.2.2.1, fun k i f z => (g.2.2.2.2 k i f z).trans (h.2.2.2.2 k i f z)⟩
theorem pq_mono (h : pq S M M1) (g : ∀ i, S i → T i) : pq T M M1 := ⟨h.1, h.2.1, h.2.2.1, h.2.2.2.1, fun k i f z => h.2.2.2.2 k i f (fun q => z ⟨q.1, g i q.2⟩)⟩
theorem pq_g (h : pq S M M1) (g : ¬ S i) : pg M1 i = pg M i := by
  unfold pg
  rw [h.2.2.2.2 11 i 0 (fun z => g z.2), h.2.2.2.2 11 i 1 (fun z => g z.2), h.2.2.2.2 11 i 2 (fun z => g z.2), h.2.2.2.2 11 i 3 (fun z => g z.2), h.2.2.2.2 11 i 4 (fun z => g z.2), h.2.2.2.2 11 i 5 (fun z => g z.2)]
theorem pg_t : pg (pn_t M j x) j = x := by
  unfold pg pn_t
  rw [pn_0, pn_1, pn_2, pn_3, pn_4, pn_5]
theorem pg_put {a b c d e f : Int64} : pg (pn_put M j a b c d e f) j = (a, b, c, d, e, f) := pg_t (x := (a, b, c, d, e, f))
theorem pg_L (h : ¬ i = j) : pg (pn_t M j x) i = pg M i := by
  unfold pg pn_t
  rw [pn_L h, pn_L h, pn_L h, pn_L h, pn_L h, pn_L h]
theorem pt_id : pn_t M j (pg M j) = M := pn_id
theorem pt_two {y : fn_N} : pn_t (pn_t M j x) j y = pn_t M j y := pn_two
theorem pq_t (h : S j) : pq S M (pn_t M j x) := by
  refine ⟨rfl, rfl, rfl, rfl, ?_⟩
  intro k i f z
  have z2 : ¬ (k = 11 ∧ i = j) := fun q => z ⟨q.1, q.2 ▸ h⟩
  have step : ∀ (N : me_M) (q : Nat) (v : Int64), mL (wL N 11 j q v) k i f = mL N k i f := fun N q v => if_neg (fun r => z2 ⟨r.1, r.2.1⟩)
  show mL (pn_put M j _ _ _ _ _ _) k i f = _
  unfold pn_put
  rw [step, step, step, step, step, step]
theorem pt_copy (h : ¬ i = j) : f_Num_copy M j i = some (pn_t M j (pg M i)) := pf_Num_copy h
theorem pt_exact {v : Int64} : f_Num_exact M j v = some (pn_t M j (fn_ex v)) := pf_Num_exact M j v
theorem pt_any : f_Num_any M j = some (pn_t M j fn_any) := pf_Num_any M j
theorem pt_settle_some (h : fn_it 3 (pg M j) = some x) : f_Num_settle M j = some (pn_t M j x, 1) := by
  have q := pf_settle_some (M := M) (j := j) (a := mL M 11 j 0) (b := mL M 11 j 1) (c := mL M 11 j 2) (d := mL M 11 j 3) (e := mL M 11 j 4) (f := mL M 11 j 5) h
  rw [pn_id] at q
  exact q
theorem pt_settle_none (h : fn_it 3 (pg M j) = none) : ∃ y, f_Num_settle M j = some (pn_t M j y, 0) := by
  obtain ⟨a, b, c, d, e, f, q⟩ := pf_settle_none (M := M) (j := j) (a := mL M 11 j 0) (b := mL M 11 j 1) (c := mL M 11 j 2) (d := mL M 11 j 3) (e := mL M 11 j 4) (f := mL M 11 j 5) h
  rw [pn_id] at q
  exact ⟨(a, b, c, d, e, f), q⟩
theorem pt_narrow {j0 : Nat} : ∃ M1, f_Reckoner_narrow M j0 j = some M1 ∧ pg M1 j = fn_narT (pg M j) ∧ pq (fun i => i = j) M M1 := by
  obtain ⟨n, hn⟩ : ∃ n, pg M j = n := ⟨_, rfl⟩
  have hM : M = pn_put M j n.1 n.2.1 n.2.2.1 n.2.2.2.1 n.2.2.2.2.1 n.2.2.2.2.2 := by rw [← hn]; exact pn_id.symm
  obtain ⟨n1, n2, n3, n4, n5, n6⟩ := n
  dsimp only at hM
  unfold f_Reckoner_narrow
  rw [pf_isAbove, b2_some, hn]
  have e3 : mL M 11 j 3 = n4 := congrArg (fun z : fn_N => z.2.2.2.1) hn
  have e2 : mL M 11 j 2 = n3 := congrArg (fun z : fn_N => z.2.2.1) hn
  rw [e3, e2]
  unfold fn_narT fn_nar
  by_cases g : fn_lt 4294967295 n4
  · rw [if_pos g, if_pos g, if_neg (by decide)]
    have key : ∀ s l m, fn_nar0 n1 n2 n3 n4 = (n1 &&& 4294967295, n2 &&& 4294967295, l, m, 0, 4294967295) → f_Reckoner_narrow_b34 j M s = f_Reckoner_narrow_b70 j M m l j → ∃ M1, f_Reckoner_narrow_b34 j M s = some M1 ∧ pg M1 j = (fn_it 3 (fn_nar0 n1 n2 n3 n4)).getD fn_low ∧ pq (fun i => i = j) M M1 := by
      intro s l m e1 e2
      rw [e1, e2]
      have hb : ∀ N : me_M, N = pn_put M j n1 n2 n3 n4 n5 n6 → f_Reckoner_narrow_b70 j N m l j = b2 (f_Num_settle (pn_t M j (n1 &&& 4294967295, n2 &&& 4294967295, l, m, 0, 4294967295)) j) (fun M5 r6 => if r6 = 0 then bd (f_Num_bits M5 j 0 4294967295) (fun M8 => bd (f_Num_range M8 j 0 4294967295) (fun M9 => st (wL M9 11 j 4 0) (fun M10 => st (wL M10 11 j 5 4294967295) (fun M11 => some M11)))) else some M5) := by
        intro N hN
        subst hN
        unfold f_Reckoner_narrow_b70 pn_t
        rw [pf_range, bd_some, pn_0, pn_1, pf_bits, bd_some, st_eq, pn_w4, st_eq, pn_w5]
      rw [hb M hM]
      cases hs : fn_it 3 (n1 &&& 4294967295, n2 &&& 4294967295, l, m, 0, 4294967295) with
      | some y =>
        rw [pt_settle_some (x := y) (by rw [pg_t]; exact hs), b2_some, if_neg (by decide)]
        refine ⟨_, rfl, ?_, ?_⟩
        · rw [pg_t]; rfl
        · exact pq_trans (pq_t rfl) (pq_t rfl)
      | none =>
        obtain ⟨y, hy⟩ := pt_settle_none (M := pn_t M j (n1 &&& 4294967295, n2 &&& 4294967295, l, m, 0, 4294967295)) (j := j) (by rw [pg_t]; exact hs)
        rw [hy, b2_some, if_pos rfl, pt_two]
        unfold pn_t
        rw [pf_bits, bd_some, pf_range, bd_some, st_eq, pn_w4, st_eq, pn_w5]
        refine ⟨_, rfl, ?_, ?_⟩
        · rw [pg_put]; rfl
        · exact pq_t (x := fn_low) rfl
    unfold fn_nar0 at key ⊢
    by_cases g2 : (n3.toUInt64 >>> ((32 : Int32).toInt64.toUInt64 &&& Int64.toUInt64 63)).toInt64 = (n4.toUInt64 >>> ((32 : Int32).toInt64.toUInt64 &&& Int64.toUInt64 63)).toInt64
    · rw [if_pos (show jlushr n3 32 = jlushr n4 32 from g2)]
      refine key 1 (n3 &&& 4294967295) (n4 &&& 4294967295) ?_ ?_
      · rw [if_pos g2, if_pos g2]
      · unfold f_Reckoner_narrow_b34 f_Reckoner_narrow_b52
        rw [if_neg (by decide), if_neg (by decide), e2, e3]
    · rw [if_neg (show ¬ jlushr n3 32 = jlushr n4 32 from g2)]
      refine key 0 0 4294967295 ?_ ?_
      · rw [if_neg g2, if_neg g2]
      · unfold f_Reckoner_narrow_b34 f_Reckoner_narrow_b52
        rw [if_pos rfl, if_pos rfl]
  · rw [if_neg g, if_neg g, if_pos rfl]
    exact ⟨M, rfl, hn, pq_refl⟩
end PQ
/-- the Reckoner's own numbers are the first five -/
def ps_R (M : me_M) : Prop := mR M 8 0 0 = some 0 ∧ mR M 8 0 1 = some 1 ∧ mR M 8 0 2 = some 2 ∧ mR M 8 0 3 = some 3 ∧ mR M 8 0 4 = some 4
theorem ps_R_of {M M1 : me_M} (h : mR M1 = mR M) (g : ps_R M) : ps_R M1 := by unfold ps_R at g ⊢; rw [h]; exact g
theorem pf_b370 {M : me_M} {o : Nat} (hs : ps_R M) (ho : ¬ 2 = o) : ∃ M1, f_Reckoner_operateWide_b370 0 o M = some M1 ∧ pg M1 o = fn_fin (pg M 2) ∧ pq (fun i => i = 2 ∨ i = o) M M1 := by
  unfold f_Reckoner_operateWide_b370 fn_fin
  rw [hs.2.2.1, bd_some]
  cases h : fn_it 3 (pg M 2) with
  | some y =>
    rw [pt_settle_some h, b2_some, if_neg (by decide), pt_copy ho, bd_some, pg_t]
    exact ⟨_, rfl, pg_t, pq_trans (pq_t (Or.inl rfl)) (pq_t (Or.inr rfl))⟩
  | none =>
    obtain ⟨y, hy⟩ := pt_settle_none h
    rw [hy, b2_some, if_pos rfl, pt_any, bd_some, pt_two, pt_copy ho, bd_some, pg_t]
    exact ⟨_, rfl, pg_t, pq_trans (pq_t (Or.inl rfl)) (pq_t (Or.inr rfl))⟩
/-- numbers that the Reckoner does not use for itself -/
abbrev pq_W (o : Nat) : Nat → Prop := fun i => i = 2 ∨ i = 3 ∨ i = 4 ∨ i = o
theorem pW2 {o : Nat} : pq_W o 2 := Or.inl rfl
theorem pW3 {o : Nat} : pq_W o 3 := Or.inr (Or.inl rfl)
theorem pW4 {o : Nat} : pq_W o 4 := Or.inr (Or.inr (Or.inl rfl))
theorem pWo {o : Nat} : pq_W o o := Or.inr (Or.inr (Or.inr rfl))
theorem pW_2 {o : Nat} : ∀ i, (i = 2 ∨ i = o) → pq_W o i := by
  intro i hi
  rcases hi with r | r
  · rw [r]; exact pW2
  · rw [r]; exact pWo
theorem ps_R_t {M : me_M} {j : Nat} {x : fn_N} (h : ps_R M) : ps_R (pn_t M j x) := ps_R_of rfl h
theorem pf_andT {M : me_M} {j0 j1 j2 jo : Nat} (ho : mR M 8 j0 2 = some jo) (h1 : ¬ j1 = jo) (h2 : ¬ j2 = jo) : f_Reckoner_and (pn_t M jo fn_any) j0 j1 j2 = some (pn_t M jo (fn_and (pg M j1).1 (pg M j1).2.1 (pg M j1).2.2.2.1 (pg M j2).1 (pg M j2).2.1 (pg M j2).2.2.2.1)) := pf_and ho h1 h2
theorem pf_b323 {M : me_M} {x o : Nat} {v : Int64} (hs : ps_R M) (hx : ¬ x = 2) (hx4 : ¬ x = 4) (ho : ¬ 2 = o) (h2 : pg M 2 = fn_any) : ∃ M1, f_Reckoner_operateWide_b323 0 x o M v 4 = some M1 ∧ pg M1 o = fn_fin (fn_cut (pg M x).1 (pg M x).2.1 (pg M x).2.2.1 (pg M x).2.2.2.1 (pg M x).2.2.2.2.1 (pg M x).2.2.2.2.2 v) ∧ pq (pq_W o) M M1 := by
  have hs4 : ps_R (pn_t M 4 (fn_ex v)) := ps_R_t hs
  have fin : ∀ r : fn_N, ∃ M1, f_Reckoner_operateWide_b370 0 o (pn_t (pn_t M 4 (fn_ex v)) 2 r) = some M1 ∧ pg M1 o = fn_fin r ∧ pq (pq_W o) M M1 := by
    intro r
    obtain ⟨M1, h1, h3, h4⟩ := pf_b370 (M := pn_t (pn_t M 4 (fn_ex v)) 2 r) (o := o) (ps_R_t hs4) ho
    rw [pg_t] at h3
    exact ⟨M1, h1, h3, pq_trans (pq_trans (pq_t pW4) (pq_t pW2)) (pq_mono h4 pW_2)⟩
  unfold f_Reckoner_operateWide_b323
  rw [pt_exact, bd_some, hs.2.2.2.2, bd_some, pf_isAbove, b2_some, hs.2.2.1]
  have ex : pg (pn_t M 4 (fn_ex v)) x = pg M x := pg_L hx4
  have e3 : mL (pn_t M 4 (fn_ex v)) 11 x 3 = (pg M x).2.2.2.1 := congrArg (fun z : fn_N => z.2.2.2.1) ex
  have e9 : pg (pn_t M 4 (fn_ex v)) 4 = fn_ex v := pg_t
  have e4 : mL (pn_t M 4 (fn_ex v)) 11 4 0 = v := congrArg (fun z : fn_N => z.1) e9
  rw [e3, e4]
  unfold fn_cut
  by_cases g : fn_lt v (pg M x).2.2.2.1
  · rw [if_pos g, if_pos g, if_neg (by decide)]
    have q2 : pg (pn_t M 4 (fn_ex v)) 2 = fn_any := (pg_L (by decide)).trans h2
    have hM : pn_t (pn_t M 4 (fn_ex v)) 2 fn_any = pn_t M 4 (fn_ex v) := by
      rw [← q2]; exact pt_id
    have q := pf_andT (M := pn_t M 4 (fn_ex v)) (j0 := 0) (j1 := x) (j2 := 4) (jo := 2) hs4.2.2.1 hx (by decide)
    rw [hM, ex, e9] at q
    rw [q, bd_some]
    exact fin _
  · rw [if_neg g, if_neg g, if_pos rfl, bd_some, pt_copy hx, bd_some, ex]
    exact fin (pg M x)
theorem pf_opw {M : me_M} {op : Int32} {x y o : Nat} (hs : ps_R M) (hx : x < 2 ∨ 4 < x) (hy : y < 2 ∨ 4 < y) (ho : 4 < o) : ∃ M1, f_Reckoner_operateWide M 0 op x y o = some M1 ∧ pg M1 o = fn_fin (fn_rawT (pg M x) (pg M y) op) ∧ pq (pq_W o) M M1 := by
  have x2 : ¬ x = 2 := by omega
  have y2 : ¬ y = 2 := by omega
  have o2 : ¬ 2 = o := by omega
  have fin : ∀ M2 r, mR M2 = mR M → pg M2 2 = r → pq (pq_W o) M M2 → ∃ M1, f_Reckoner_operateWide_b370 0 o M2 = some M1 ∧ pg M1 o = fn_fin r ∧ pq (pq_W o) M M1 := by
    intro M2 r hR hr hq
    obtain ⟨M1, h1, h3, h4⟩ := pf_b370 (o := o) (ps_R_of hR hs) o2
    exact ⟨M1, h1, by rw [h3, hr], pq_trans hq (pq_mono h4 pW_2)⟩
  have fin2 : ∀ r, ∃ M1, f_Reckoner_operateWide_b370 0 o (pn_t M 2 r) = some M1 ∧ pg M1 o = fn_fin r ∧ pq (pq_W o) M M1 := fun r => fin _ r rfl pg_t (pq_t (Or.inl rfl))
  unfold f_Reckoner_operateWide fn_rawT fn_raw
  rw [hs.2.2.1, bd_some, pf_Num_any, bd_some]
  by_cases e : op = 0
  · rw [if_pos e, if_pos e, pf_add hs.2.2.1 x2 y2, bd_some]; exact fin2 _
  rw [if_neg e, if_neg e]
  by_cases e : op = 1
  · rw [if_pos e, if_pos e, pf_sub hs.2.2.1 x2 y2, bd_some]; exact fin2 _
  rw [if_neg e, if_neg e]
  by_cases e : op = 2
  · rw [if_pos e, if_pos e, pf_mul hs.2.2.1 x2 y2, bd_some]; exact fin2 _
  rw [if_neg e, if_neg e]
  by_cases e : op = 3
  · rw [if_pos e, if_pos e, pf_div hs.2.2.1 x2 y2, bd_some]; exact fin2 _
  rw [if_neg e, if_neg e]
  by_cases e : op = 4
  · rw [if_pos e, if_pos e, pf_rest hs.2.2.1 x2 y2, bd_some]; exact fin2 _
  rw [if_neg e, if_neg e]
  by_cases e : op = 5
  · rw [if_pos e, if_pos e, pf_and hs.2.2.1 x2 y2, bd_some]; exact fin2 (_, _, _, _, _, _)
  rw [if_neg e, if_neg e]
  by_cases e : op = 6
  · rw [if_pos e, if_pos e, st_eq]
    simp only [pn_L x2, pn_L y2, pf_bits, bd_some, pf_raise]
    exact fin2 (_, _, _, _, _, _)
  rw [if_neg e, if_neg e]
  by_cases e : op = 7
  · rw [if_pos e, if_pos e, st_eq]
    simp only [pn_L x2, pn_L y2, pf_bits, bd_some]
    exact fin2 (_, _, _, _, _, _)
  rw [if_neg e, if_neg e]
  by_cases e8 : op = 8
  · rw [if_pos e8, pf_shift hs.2.2.1 x2 y2, bd_some, if_neg (by rw [e8]; decide), if_neg (by rw [e8]; decide), if_neg (by rw [e8]; decide), if_neg (by rw [e8]; decide)]
    exact fin2 _
  rw [if_neg e8]
  by_cases e9 : op = 9
  · rw [if_pos e9, pf_shift hs.2.2.1 x2 y2, bd_some, if_neg (by rw [e9]; decide), if_neg (by rw [e9]; decide), if_neg (by rw [e9]; decide), if_neg (by rw [e9]; decide)]
    exact fin2 _
  rw [if_neg e9]
  by_cases e10 : op = 10
  · rw [if_pos e10, pf_shift hs.2.2.1 x2 y2, bd_some, if_neg (by rw [e10]; decide), if_neg (by rw [e10]; decide), if_neg (by rw [e10]; decide), if_neg (by rw [e10]; decide)]
    exact fin2 _
  rw [if_neg e10]
  by_cases e : op = 11
  · rw [if_pos e, if_pos e, hs.2.2.2.1, bd_some, pt_exact, bd_some]
    have sw : pn_t (pn_put M 2 0 (-1) 0 (-1) (-9223372036854775808) 9223372036854775807) 3 (fn_ex 0) = pn_put (pn_t M 3 (fn_ex 0)) 2 0 (-1) 0 (-1) (-9223372036854775808) 9223372036854775807 := pn_cm (by decide)
    have hs3 : ps_R (pn_t M 3 (fn_ex 0)) := ps_R_t hs
    rw [sw, pf_sub (M := pn_t M 3 (fn_ex 0)) (jo := 2) hs3.2.2.1 (by decide) x2, bd_some]
    have x3 : ¬ x = 3 := by omega
    have hx9 : pg (pn_t M 3 (fn_ex 0)) x = pg M x := pg_L x3
    have h39 : pg (pn_t M 3 (fn_ex 0)) 3 = fn_ex 0 := pg_t
    have es : ∀ N : me_M, pg N 3 = fn_ex 0 → pg N x = pg M x → fn_sub (mL N 11 3 0) (mL N 11 3 1) (mL N 11 3 2) (mL N 11 3 3) (mL N 11 3 4) (mL N 11 3 5) (mL N 11 x 0) (mL N 11 x 1) (mL N 11 x 2) (mL N 11 x 3) (mL N 11 x 4) (mL N 11 x 5) = fn_sub 0 0 0 0 0 0 (pg M x).1 (pg M x).2.1 (pg M x).2.2.1 (pg M x).2.2.2.1 (pg M x).2.2.2.2.1 (pg M x).2.2.2.2.2 := by
      intro N a1 a2
      show fn_sub (pg N 3).1 (pg N 3).2.1 (pg N 3).2.2.1 (pg N 3).2.2.2.1 (pg N 3).2.2.2.2.1 (pg N 3).2.2.2.2.2 (pg N x).1 (pg N x).2.1 (pg N x).2.2.1 (pg N x).2.2.2.1 (pg N x).2.2.2.2.1 (pg N x).2.2.2.2.2 = _
      rw [a1, a2]
    rw [es _ h39 hx9]
    exact fin _ _ rfl pg_t (pq_trans (pq_t (j := 3) (x := fn_ex 0) pW3) (pq_t pW2))
  rw [if_neg e, if_neg e]
  by_cases e : op = 12
  · rw [if_pos e, if_pos e, pf_Num_copy y2, bd_some, pn_two]
    simp only [pn_L y2]
    exact fin2 (_, _, _, _, _, _)
  rw [if_neg e, if_neg e]
  by_cases e : op = 13
  · rw [if_pos e, if_pos e, pf_swap hs.2.2.1 x2 y2, bd_some]; exact fin2 _
  rw [if_neg e, if_neg e]
  by_cases e : op = 14
  · have hq : pq (pq_W o) M (pn_t M 2 fn_any) := pq_t (Or.inl rfl)
    have ey : pg (pn_t M 2 fn_any) y = pg M y := pg_L y2
    have ex : pg (pn_t M 2 fn_any) x = pg M x := pg_L x2
    have y0 : mL (pn_t M 2 fn_any) 11 y 0 = (pg M y).1 := congrArg (fun z : fn_N => z.1) ey
    have y1 : mL (pn_t M 2 fn_any) 11 y 1 = (pg M y).2.1 := congrArg (fun z : fn_N => z.2.1) ey
    have cut : ∀ v, ∃ M1, f_Reckoner_operateWide_b323 0 x o (pn_t M 2 fn_any) v 4 = some M1 ∧ pg M1 o = fn_fin (fn_cut (pg M x).1 (pg M x).2.1 (pg M x).2.2.1 (pg M x).2.2.2.1 (pg M x).2.2.2.2.1 (pg M x).2.2.2.2.2 v) ∧ pq (pq_W o) M M1 := by
      intro v
      obtain ⟨M1, h1, h3, h4⟩ := pf_b323 (M := pn_t M 2 fn_any) (x := x) (o := o) (v := v) (ps_R_t hs) x2 (by omega) o2 pg_t
      rw [ex] at h3
      exact ⟨M1, h1, h3, pq_trans hq h4⟩
    rw [if_pos e, if_pos e, hs.2.2.2.2, bd_some, pf_isExact1, b2_some]
    rw [show pn_put M 2 0 (-1) 0 (-1) (-9223372036854775808) 9223372036854775807 = pn_t M 2 fn_any from rfl, y0, y1]
    by_cases c1 : (pg M y).2.1 = 0 ∧ (pg M y).1 = 2
    · rw [if_pos c1, if_pos c1, if_neg (by decide)]; exact cut _
    rw [if_neg c1, if_neg c1, if_pos rfl, pf_isExact1, b2_some, y0, y1]
    by_cases c2 : (pg M y).2.1 = 0 ∧ (pg M y).1 = 4
    · rw [if_pos c2, if_pos c2, if_neg (by decide)]; exact cut _
    rw [if_neg c2, if_neg c2, if_pos rfl]; exact cut _
  rw [if_neg e, if_neg e, pf_shift hs.2.2.1 x2 y2, bd_some]; exact fin2 _
