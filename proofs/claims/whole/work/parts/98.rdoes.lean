/-! PURE: the reference's operations, wide or narrow. -/
/-- only numbers at places of S are changed -/
def rq (S : Nat → Prop) (M M1 : me_M) : Prop := mI M1 = mI M ∧ mR M1 = mR M ∧ mN M1 = mN M ∧ mZ M1 = mZ M ∧ ∀ k j f, ¬ (k = 16 ∧ (6 ≤ j ∧ j ≤ 11) ∧ S f) → mL M1 k j f = mL M k j f
section RQ
variable {M M1 M2 : me_M} {S T : Nat → Prop} {i j : Nat} {z : fn_N} {x : Int32}
theorem rq_refl : rq S M M := ⟨rfl, rfl, rfl, rfl, fun _ _ _ _ => rfl⟩
theorem rq_trans (h : rq S M M1) (g : rq S M1 M2) : rq S M M2 := ⟨g.1.trans h.1, g.2.1.trans h.2.1, g.2.2.1.trans h.2.2.1, g.2.2.2.1.trans h.2.2.2.1, fun k i f z => (g.2.2.2.2 k i f z).trans (h.2.2.2.2 k i f z)⟩
theorem rq_mono (h : rq S M M1) (g : ∀ i, S i → T i) : rq T M M1 := ⟨h.1, h.2.1, h.2.2.1, h.2.2.2.1, fun k i f z => h.2.2.2.2 k i f (fun q => z ⟨q.1, q.2.1, g f q.2.2⟩)⟩
theorem rq_g (h : rq S M M1) (g : ¬ S i) : rg M1 i = rg M i := by
  unfold rg
  rw [h.2.2.2.2 16 6 i (fun z => g z.2.2), h.2.2.2.2 16 7 i (fun z => g z.2.2), h.2.2.2.2 16 8 i (fun z => g z.2.2), h.2.2.2.2 16 9 i (fun z => g z.2.2), h.2.2.2.2 16 10 i (fun z => g z.2.2), h.2.2.2.2 16 11 i (fun z => g z.2.2)]
theorem rq_t (h : S i) : rq S M (rt M i z) := by
  refine ⟨rfl, rfl, rfl, rfl, ?_⟩
  intro k l f c
  have step : ∀ (N : me_M) (q : Nat) (v : Int64), 6 ≤ q → q ≤ 11 → mL (wL N 16 q i v) k l f = mL N k l f := by
    intro N q v h1 h2
    refine if_neg (fun r => c ⟨r.1, ?_, ?_⟩)
    · rw [r.2.1]; exact ⟨h1, h2⟩
    · rw [r.2.2]; exact h
  show mL (rn_put M i _ _ _ _ _ _) k l f = _
  unfold rn_put
  rw [step _ _ _ (by decide) (by decide), step _ _ _ (by decide) (by decide), step _ _ _ (by decide) (by decide), step _ _ _ (by decide) (by decide), step _ _ _ (by decide) (by decide), step _ _ _ (by decide) (by decide)]
theorem rq_ps (h : rq S M M1) (g : ps_M M) : ps_M M1 := ps_M_of h.2.1 h.2.2.2.1 g
theorem pm_b249 (h : ps_M M) : f_M_does1_b249 0 M = some (rt M 30077 (fn_fin (rg M 30077))) := by
  unfold f_M_does1_b249 fn_fin
  cases e : fn_it 3 (rg M 30077) with
  | some z => rw [pm_settle_some h ok_R e, b2_some, if_neg (by decide)]; rfl
  | none =>
    obtain ⟨z, hz⟩ := pm_settle_none h ok_R e
    rw [hz, b2_some, if_pos rfl, pm_any (ps_t h) ok_R, bd_some, rt_two]; rfl
theorem pm_fin (h : ps_M M) : f_M_does1_b249 0 (rt M 30077 z) = some (rt M 30077 (fn_fin z)) := by
  rw [pm_b249 (ps_t h), rt_two, rg_t]
end RQ
section RW
variable {M : me_M} {i : Nat} {x : Int32} {a b c d e f v w : Int64} {k : me_M → Int32 → Int64 → Int64 → Int64 → Int64 → Int32 → Option me_M} {y2 y11 : Int32} {y3 y5 y7 y9 : Int64}
theorem pw_178 (h : ps_M M) (hx : ok x i) : f_M_narrow_b178 k 0 x (rn_put M i a b c d e f) y2 y3 y5 y7 y9 y11 v x 9 = b2 (f_M_settle (rn_put M i a b c v 0 4294967295) 0 x) (fun M11 r12 => if r12 = 0 then k M11 y2 y3 y5 y7 y9 (y11 + 1) else some M11) := by
  unfold f_M_narrow_b178
  simp only [bd_some, b2_some, st_eq, rs_52 h, rs_53 h, rs_54 h, rs_55 h, rs_56 h, rs_57 h, rz_16_6 h, rz_16_7 h, rz_16_8 h, rz_16_9 h, rz_16_10 h, rz_16_11 h, rn_R, rn_Z, pR_L, pZ_L, rn_0, rn_w0, rn_1, rn_w1, rn_2, rn_w2, rn_3, rn_w3, rn_4, rn_w4, rn_5, rn_w5, hx.2.1, ok_g hx, if_true, gd]
theorem pw_151 (h : ps_M M) (hx : ok x i) : f_M_narrow_b151 k 0 x (rn_put M i a b c d e f) y2 y3 y5 y7 y9 y11 v x 8 = b2 (f_M_settle (rn_put M i a b v (if y11 = 0 then (if y2 = 0 then 4294967295 else y5 &&& 4294967295) else 4294967295) 0 4294967295) 0 x) (fun M11 r12 => if r12 = 0 then k M11 y2 y3 y5 y7 y9 (y11 + 1) else some M11) := by
  unfold f_M_narrow_b151 f_M_narrow_b175
  simp only [bd_some, b2_some, st_eq, rs_52 h, rs_53 h, rs_54 h, rs_55 h, rs_56 h, rs_57 h, rz_16_6 h, rz_16_7 h, rz_16_8 h, rz_16_9 h, rz_16_10 h, rz_16_11 h, rn_R, rn_Z, pR_L, pZ_L, rn_0, rn_w0, rn_1, rn_w1, rn_2, rn_w2, rn_3, rn_w3, rn_4, rn_w4, rn_5, rn_w5, hx.2.1, ok_g hx, if_true, gd, pw_178 h hx]
  by_cases g1 : y11 = 0
  · rw [if_pos g1, if_pos g1]
    by_cases g2 : y2 = 0
    · rw [if_pos g2, if_pos g2]
    · rw [if_neg g2, if_neg g2]
  · rw [if_neg g1, if_neg g1]
theorem pw_127 (h : ps_M M) (hx : ok x i) : f_M_narrow_b127 k 0 x (rn_put M i a b c d e f) y2 y3 y5 y7 y9 y11 v x 7 = b2 (f_M_settle (rn_put M i a v (if y11 = 0 then (if y2 = 0 then 0 else y3 &&& 4294967295) else 0) (if y11 = 0 then (if y2 = 0 then 4294967295 else y5 &&& 4294967295) else 4294967295) 0 4294967295) 0 x) (fun M11 r12 => if r12 = 0 then k M11 y2 y3 y5 y7 y9 (y11 + 1) else some M11) := by
  unfold f_M_narrow_b127 f_M_narrow_b150
  simp only [bd_some, b2_some, st_eq, rs_52 h, rs_53 h, rs_54 h, rs_55 h, rs_56 h, rs_57 h, rz_16_6 h, rz_16_7 h, rz_16_8 h, rz_16_9 h, rz_16_10 h, rz_16_11 h, rn_R, rn_Z, pR_L, pZ_L, rn_0, rn_w0, rn_1, rn_w1, rn_2, rn_w2, rn_3, rn_w3, rn_4, rn_w4, rn_5, rn_w5, hx.2.1, ok_g hx, if_true, gd, pw_151 h hx]
  by_cases g1 : y11 = 0
  · rw [if_pos g1, if_pos g1, if_pos g1]
    by_cases g2 : y2 = 0
    · rw [if_pos g2, if_pos g2, if_pos g2]
    · rw [if_neg g2, if_neg g2, if_neg g2]
  · rw [if_neg g1, if_neg g1, if_neg g1]
theorem pw_108 (h : ps_M M) (hx : ok x i) : f_M_narrow_b108 k 0 x (rn_put M i a b c d e f) y2 y3 y5 y7 y9 y11 v x 6 = b2 (f_M_settle (rn_put M i v (if y11 = 0 then y9 else 4294967295) (if y11 = 0 then (if y2 = 0 then 0 else y3 &&& 4294967295) else 0) (if y11 = 0 then (if y2 = 0 then 4294967295 else y5 &&& 4294967295) else 4294967295) 0 4294967295) 0 x) (fun M11 r12 => if r12 = 0 then k M11 y2 y3 y5 y7 y9 (y11 + 1) else some M11) := by
  unfold f_M_narrow_b108
  simp only [bd_some, b2_some, st_eq, rs_52 h, rs_53 h, rs_54 h, rs_55 h, rs_56 h, rs_57 h, rz_16_6 h, rz_16_7 h, rz_16_8 h, rz_16_9 h, rz_16_10 h, rz_16_11 h, rn_R, rn_Z, pR_L, pZ_L, rn_0, rn_w0, rn_1, rn_w1, rn_2, rn_w2, rn_3, rn_w3, rn_4, rn_w4, rn_5, rn_w5, hx.2.1, ok_g hx, if_true, gd, pw_127 h hx]
  by_cases g1 : y11 = 0
  · simp only [if_pos g1]
  · simp only [if_neg g1]
theorem pw_l {fu : Nat} (h : ps_M M) (hx : ok x i) (hy : ¬ 2 ≤ y11) : f_M_narrow_l86 0 x (fu + 1) (rn_put M i a b c d e f) y2 y3 y5 y7 y9 y11 = b2 (f_M_settle (rn_put M i (if y11 = 0 then y7 else 0) (if y11 = 0 then y9 else 4294967295) (if y11 = 0 then (if y2 = 0 then 0 else y3 &&& 4294967295) else 0) (if y11 = 0 then (if y2 = 0 then 4294967295 else y5 &&& 4294967295) else 4294967295) 0 4294967295) 0 x) (fun M11 r12 => if r12 = 0 then f_M_narrow_l86 0 x fu M11 y2 y3 y5 y7 y9 (y11 + 1) else some M11) := by
  rw [f_M_narrow_l86, if_neg hy, rn_R, rs_52 h, bd_some, pw_108 h hx, pw_108 h hx]
  by_cases g1 : y11 = 0
  · simp only [if_pos g1]
  · simp only [if_neg g1]
theorem fn_low_it : fn_it 3 fn_low = some fn_low := by decide +kernel
theorem pw_43 (h : ps_M M) (hx : ok x i) {s : Int32} : f_M_narrow_b43 0 x (rn_put M i a b c d e f) s = some (rt M i ((fn_it 3 (a &&& 4294967295, b &&& 4294967295, (if s = 0 then 0 else c &&& 4294967295), (if s = 0 then 4294967295 else d &&& 4294967295), 0, 4294967295)).getD fn_low)) := by
  have start : f_M_narrow_b43 0 x (rn_put M i a b c d e f) s = f_M_narrow_l86 0 x fuel (rn_put M i a b c d e f) s c d (a &&& 4294967295) (b &&& 4294967295) 0 := by
    unfold f_M_narrow_b43
    generalize f_M_narrow_l86 = q
    simp only [bd_some, b2_some, st_eq, rs_52 h, rs_53 h, rs_54 h, rs_55 h, rs_56 h, rs_57 h, rz_16_6 h, rz_16_7 h, rz_16_8 h, rz_16_9 h, rz_16_10 h, rz_16_11 h, rn_R, rn_Z, pR_L, pZ_L, rn_0, rn_w0, rn_1, rn_w1, rn_2, rn_w2, rn_3, rn_w3, rn_4, rn_w4, rn_5, rn_w5, hx.2.1, ok_g hx, if_true, gd]
  rw [start, show fuel = 4294967295 + 1 from rfl, pw_l h hx (by decide), if_pos rfl, if_pos rfl, if_pos rfl, if_pos rfl]
  have e0 : rg (rn_put M i (a &&& 4294967295) (b &&& 4294967295) (if s = 0 then 0 else c &&& 4294967295) (if s = 0 then 4294967295 else d &&& 4294967295) 0 4294967295) i = (a &&& 4294967295, b &&& 4294967295, (if s = 0 then 0 else c &&& 4294967295), (if s = 0 then 4294967295 else d &&& 4294967295), 0, 4294967295) := rg_t (x := (_, _, _, _, _, _))
  cases hz : fn_it 3 (a &&& 4294967295, b &&& 4294967295, (if s = 0 then 0 else c &&& 4294967295), (if s = 0 then 4294967295 else d &&& 4294967295), 0, 4294967295) with
  | some z =>
    rw [pm_settle_some (ps_put h) hx (e0 ▸ hz), b2_some, if_neg (by decide)]
    exact congrArg some (rt_two (x := (_, _, _, _, _, _)))
  | none =>
    obtain ⟨z, q⟩ := pm_settle_none (M := rn_put M i (a &&& 4294967295) (b &&& 4294967295) (if s = 0 then 0 else c &&& 4294967295) (if s = 0 then 4294967295 else d &&& 4294967295) 0 4294967295) (ps_put h) hx (e0 ▸ hz)
    rw [q, b2_some, if_pos rfl, show rt (rn_put M i (a &&& 4294967295) (b &&& 4294967295) (if s = 0 then 0 else c &&& 4294967295) (if s = 0 then 4294967295 else d &&& 4294967295) 0 4294967295) i z = rt M i z from rt_two (x := (_, _, _, _, _, _)), show (4294967295 : Nat) = 4294967294 + 1 from rfl]
    rw [show rt M i z = rn_put M i z.1 z.2.1 z.2.2.1 z.2.2.2.1 z.2.2.2.2.1 z.2.2.2.2.2 from rfl, pw_l h hx (by decide), if_neg (by decide), if_neg (by decide), if_neg (by decide), if_neg (by decide)]
    have e1 : rg (rn_put M i 0 4294967295 0 4294967295 0 4294967295) i = fn_low := rg_t (x := fn_low)
    rw [pm_settle_some (z := fn_low) (ps_put h) hx (by rw [e1]; exact fn_low_it), b2_some, if_neg (by decide)]
    exact congrArg some (rt_two (x := fn_low))
theorem pm_narrow (h : ps_M M) (hx : ok x i) : f_M_narrow M 0 x = some (rt M i (fn_narT (rg M i))) := by
  obtain ⟨⟨a0, b0, c0, d0, e0, f0⟩, hr⟩ : ∃ n : fn_N, rg M i = n := ⟨_, rfl⟩
  have hM : M = rn_put M i a0 b0 c0 d0 e0 f0 := by
    have q := rt_id (M := M) (i := i)
    rw [hr] at q
    exact q.symm
  have hd : mL M 16 9 i = d0 := congrArg (fun z : fn_N => z.2.2.2.1) hr
  have hc : mL M 16 8 i = c0 := congrArg (fun z : fn_N => z.2.2.1) hr
  have k43 := fun s => pw_43 (a := a0) (b := b0) (c := c0) (d := d0) (e := e0) (f := f0) (s := s) h hx
  rw [← hM] at k43
  unfold f_M_narrow
  simp only [bd_some, b2_some, st_eq, rs_52 h, rs_53 h, rs_54 h, rs_55 h, rs_56 h, rs_57 h, rz_16_6 h, rz_16_7 h, rz_16_8 h, rz_16_9 h, rz_16_10 h, rz_16_11 h, rn_R, rn_Z, pR_L, pZ_L, rn_0, rn_w0, rn_1, rn_w1, rn_2, rn_w2, rn_3, rn_w3, rn_4, rn_w4, rn_5, rn_w5, hx.2.1, ok_g hx, if_true, gd, pm_below]
  rw [hd, hc, hr]
  unfold fn_narT fn_nar
  by_cases g : fn_lt 4294967295 d0
  · rw [if_pos g, if_neg (by decide), if_pos g, k43, k43]
    unfold fn_nar0
    by_cases g2 : jlushr c0 32 = jlushr d0 32
    · rw [if_pos g2, if_neg (by decide), if_neg (by decide), if_pos (show (c0.toUInt64 >>> ((32 : Int32).toInt64.toUInt64 &&& Int64.toUInt64 63)).toInt64 = (d0.toUInt64 >>> ((32 : Int32).toInt64.toUInt64 &&& Int64.toUInt64 63)).toInt64 from g2), if_pos (show (c0.toUInt64 >>> ((32 : Int32).toInt64.toUInt64 &&& Int64.toUInt64 63)).toInt64 = (d0.toUInt64 >>> ((32 : Int32).toInt64.toUInt64 &&& Int64.toUInt64 63)).toInt64 from g2)]
    · rw [if_neg g2, if_pos rfl, if_pos rfl, if_neg (show ¬ (c0.toUInt64 >>> ((32 : Int32).toInt64.toUInt64 &&& Int64.toUInt64 63)).toInt64 = (d0.toUInt64 >>> ((32 : Int32).toInt64.toUInt64 &&& Int64.toUInt64 63)).toInt64 from g2), if_neg (show ¬ (c0.toUInt64 >>> ((32 : Int32).toInt64.toUInt64 &&& Int64.toUInt64 63)).toInt64 = (d0.toUInt64 >>> ((32 : Int32).toInt64.toUInt64 &&& Int64.toUInt64 63)).toInt64 from g2)]
  · rw [if_neg g, if_pos rfl, if_neg g]
    exact congrArg some hM
end RW
/-- what the reference does, wide or narrow -/
def fn_doe (op nar : Int32) (x y : fn_N) : fn_N := if nar = 0 then fn_fin (fn_rawT x y op) else if op = 10 then (if fn_lt 2147483647 x.2.2.2.1 then fn_any else fn_fin (fn_rawT x (fn_by5 op y) 9)) else fn_fin (fn_rawT x (fn_by5 op y) op)
theorem fn_op_doe {op nar : Int32} {x y : fn_N} : fn_op op nar x y = if nar = 0 then fn_doe op nar x y else fn_narT (fn_doe op nar (fn_narT x) (fn_narT y)) := by
  unfold fn_op fn_doe fn_opk
  by_cases g : nar = 0
  · rw [if_pos g, if_pos g, if_pos g]
  · rw [if_neg g, if_neg g, if_neg g]
    by_cases g1 : op = 10
    · rw [if_pos g1, if_pos g1]
      split <;> rfl
    · rw [if_neg g1, if_neg g1]
abbrev rq_D : Nat → Prop := fun i => i = 30075 ∨ i = 30076 ∨ i = 30077
def op_ok (op : Int32) : Prop := op = 0 ∨ op = 1 ∨ op = 2 ∨ op = 3 ∨ op = 4 ∨ op = 5 ∨ op = 6 ∨ op = 7 ∨ op = 8 ∨ op = 9 ∨ op = 10 ∨ op = 11 ∨ op = 12 ∨ op = 13 ∨ op = 14
section RD
variable {M : me_M} {op nar : Int32}
theorem rD1 : rq_D 30075 := Or.inl rfl
theorem rD2 : rq_D 30076 := Or.inr (Or.inl rfl)
theorem rD3 : rq_D 30077 := Or.inr (Or.inr rfl)
theorem pd_r {r : fn_N} (h : ps_M M) : ∃ M1, f_M_does1_b249 0 (rt M 30077 r) = some M1 ∧ rg M1 30077 = fn_fin r ∧ rq rq_D M M1 := ⟨_, pm_fin h, rg_t, rq_t rD3⟩
theorem doe_eq {op : Int32} (nar : Int32) (x y : fn_N) (g : ¬ op = 10) (g5 : fn_by5 op y = y) : fn_doe op nar x y = fn_fin (fn_rawT x y op) := by
  unfold fn_doe
  rw [g5, if_neg g]
  exact ite_self _
theorem pd_244 (h : ps_M M) {op s2 : Int32} {s0 s1 : Int64} {k : Nat} (hk : k < 64) (hs : (s1 &&& s0).toInt32 = nI k) (o1 : Int64) (ho : fn_by o1 = (s1 &&& s0).toInt32) : f_M_does1_b244 0 (rt M 30077 fn_any) s0 s1 op 0 = some (rt M 30077 (fn_fin (fn_shift (mL M 16 6 30075) (mL M 16 7 30075) (mL M 16 8 30075) (mL M 16 9 30075) (mL M 16 10 30075) (mL M 16 11 30075) o1 0 op))) := by
  unfold f_M_does1_b244
  rw [show (rt M 30077 fn_any) = rn_put M 30077 0 (-1) 0 (-1) (-9223372036854775808) 9223372036854775807 from rfl, pm_shift h hk hs o1 ho, bd_some, pm_fin h]
theorem pd_223w (h : ps_M M) {op : Int32} : f_M_does1_b223 0 0 (rt M 30077 fn_any) op 0 = some (rt M 30077 (fn_fin (fn_shift (mL M 16 6 30075) (mL M 16 7 30075) (mL M 16 8 30075) (mL M 16 9 30075) (mL M 16 10 30075) (mL M 16 11 30075) (mL M 16 6 30076) 0 op))) := by
  have e : ((mL M 16 6 30076) &&& 63).toInt32 = fn_by (mL M 16 6 30076) := Int64.toInt32_and _ _
  obtain ⟨k, hk, hs⟩ := and_63 ((mL M 16 6 30076)).toInt32
  unfold f_M_does1_b223
  rw [show mR (rt M 30077 fn_any) 1 0 52 = some 6 from rs_52 h, bd_some, show mZ (rt M 30077 fn_any) 16 6 = 30081 from rz_16_6 h, gY, if_pos rfl]
  rw [show mL (rt M 30077 fn_any) 16 6 30076 = (mL M 16 6 30076) from rY_0]
  exact pd_244 (s2 := 0) h hk (e.trans hs) _ e.symm
theorem pd_223n (h : ps_M M) {op nar : Int32} (hn : ¬ nar = 0) : f_M_does1_b223 0 nar (rt M 30077 fn_any) op 0 = some (rt M 30077 (fn_fin (fn_shift (mL M 16 6 30075) (mL M 16 7 30075) (mL M 16 8 30075) (mL M 16 9 30075) (mL M 16 10 30075) (mL M 16 11 30075) ((mL M 16 6 30076) &&& 31) 0 op))) := by
  have e1 : ((mL M 16 6 30076) &&& 31).toInt32 = ((mL M 16 6 30076)).toInt32 &&& 31 := Int64.toInt32_and _ _
  have e2 : fn_by ((mL M 16 6 30076) &&& 31) = ((mL M 16 6 30076) &&& 31).toInt32 := by
    unfold fn_by
    rw [e1, Int32.and_assoc]
    rfl
  obtain ⟨k, hk, hs⟩ := and_63 ((mL M 16 6 30076) &&& 31).toInt32
  have e3 : ((mL M 16 6 30076) &&& 31).toInt32 = nI k := e2.symm.trans hs
  unfold f_M_does1_b223
  rw [show mR (rt M 30077 fn_any) 1 0 52 = some 6 from rs_52 h, bd_some, show mZ (rt M 30077 fn_any) 16 6 = 30081 from rz_16_6 h, gY, if_neg hn]
  rw [show mL (rt M 30077 fn_any) 16 6 30076 = (mL M 16 6 30076) from rY_0]
  exact pd_244 (s2 := 0) h hk e3 _ e2
theorem px_Y (h : ps_M M) : f_M_isExact (rt M 30077 fn_any) 0 30076 = some ((rt M 30077 fn_any), if (mL M 16 7 30076) = 0 then 1 else 0) := pd_k2 h
theorem fn_sh_any {n1 n2 n3 n4 n5 n6 o1 o2 : Int64} (g : ¬ o2 = 0) : fn_shift n1 n2 n3 n4 n5 n6 o1 o2 op = fn_any := by unfold fn_shift; rw [if_neg g]
/-- the shifts -/
theorem pd_sh (h : ps_M M) (ho : op = 8 ∨ op = 9 ∨ op = 10) : ∃ M1, f_M_does1_b31 0 op nar (rt M 30077 fn_any) = some M1 ∧ rg M1 30077 = fn_doe op nar (rg M 30075) (rg M 30076) ∧ rq rq_D M M1 := by
  have raw : ∀ (op : Int32) (x y : fn_N), (op = 8 ∨ op = 9 ∨ op = 10) → fn_rawT x y op = fn_shift x.1 x.2.1 x.2.2.1 x.2.2.2.1 x.2.2.2.2.1 x.2.2.2.2.2 y.1 y.2.1 op := by
    intro op x y ho
    unfold fn_rawT fn_raw
    rcases ho with rfl | rfl | rfl <;> rfl
  have b5 : ∀ y : fn_N, fn_by5 op y = if y.2.1 = 0 then fn_ex (y.1 &&& 31) else y := by
    intro y
    unfold fn_by5
    rcases ho with rfl | rfl | rfl
    · rw [if_neg (by decide), if_neg (by decide)]
    · rw [if_neg (by decide), if_neg (by decide)]
    · rw [if_neg (by decide), if_neg (by decide)]
  have e : f_M_does1_b31 0 op nar (rt M 30077 fn_any) = b2 (f_M_isExact (rt M 30077 fn_any) 0 30076) (fun (M23 : me_M) (r24 : Int32) => (if r24 = 0 then f_M_does1_b249 0 M23 else (if nar = 0 then f_M_does1_b206 0 op nar M23 else (if op = 10 then bd (mR (rt M 30077 fn_any) 1 0 55) (fun (j28 : Nat) => gd (30075 < mZ (rt M 30077 fn_any) 16 j28) (bd (f_M_below (mL M23 16 j28 30075) (2147483648 : Int64)) (fun (r31 : Int32) => (if r31 = 0 then f_M_does1_b249 0 M23 else f_M_does1_b206 0 op nar M23)))) else f_M_does1_b206 0 op nar M23)))) := by
    unfold f_M_does1_b31
    rcases ho with rfl | rfl | rfl <;> rw [if_neg (by decide), if_neg (by decide), if_neg (by decide), if_neg (by decide), if_neg (by decide), if_neg (by decide), if_pos (by decide), if_neg (by decide), if_neg (by decide), if_neg (by decide)]
  have hb : fn_lt (mL M 16 9 30075) 2147483648 ↔ ¬ fn_lt 2147483647 (mL M 16 9 30075) := by
    rw [fn_lt_un, fn_lt_un]
    have a1 : un 2147483648 = 2147483648 := by decide
    have a2 : un 2147483647 = 2147483647 := by decide
    omega
  rw [e, px_Y h, b2_some]
  by_cases g : (mL M 16 7 30076) = 0
  · rw [if_pos g, if_neg (by decide)]
    by_cases gn : nar = 0
    · rw [if_pos gn]
      have t : f_M_does1_b206 0 op nar (rt M 30077 fn_any) = some (rt M 30077 (fn_fin (fn_shift (mL M 16 6 30075) (mL M 16 7 30075) (mL M 16 8 30075) (mL M 16 9 30075) (mL M 16 10 30075) (mL M 16 11 30075) (mL M 16 6 30076) 0 op))) := by
        unfold f_M_does1_b206 f_M_does1_b222
        rw [if_pos gn, gn, pd_223w h]
      rw [t]
      refine ⟨_, rfl, ?_, rq_t rD3⟩
      rw [rg_t]
      unfold fn_doe
      rw [if_pos gn, raw _ _ _ ho]
      show _ = fn_fin (fn_shift (mL M 16 6 30075) (mL M 16 7 30075) (mL M 16 8 30075) (mL M 16 9 30075) (mL M 16 10 30075) (mL M 16 11 30075) (mL M 16 6 30076) (mL M 16 7 30076) op)
      rw [g]
    · rw [if_neg gn]
      have g5 : fn_by5 op (rg M 30076) = fn_ex ((mL M 16 6 30076) &&& 31) := by rw [b5, if_pos (show (rg M 30076).2.1 = 0 from g)]; rfl
      by_cases g10 : op = 10
      · rw [if_pos g10, show mR (rt M 30077 fn_any) 1 0 55 = some 9 from rs_55 h, bd_some, show mZ (rt M 30077 fn_any) 16 9 = 30081 from rz_16_9 h, gX, show mL (rt M 30077 fn_any) 16 9 30075 = (mL M 16 9 30075) from rX_3, pm_below, bd_some]
        unfold fn_doe
        rw [if_neg gn, if_pos g10]
        by_cases gb : fn_lt (mL M 16 9 30075) 2147483648
        · rw [if_pos gb, if_neg (by decide), if_neg (show ¬ fn_lt 2147483647 (rg M 30075).2.2.2.1 from hb.mp gb), g5]
          have t : f_M_does1_b206 0 op nar (rt M 30077 fn_any) = some (rt M 30077 (fn_fin (fn_shift (mL M 16 6 30075) (mL M 16 7 30075) (mL M 16 8 30075) (mL M 16 9 30075) (mL M 16 10 30075) (mL M 16 11 30075) ((mL M 16 6 30076) &&& 31) 0 9))) := by
            unfold f_M_does1_b206
            rw [if_neg gn, if_pos g10, pd_223n h gn]
          rw [t]
          refine ⟨_, rfl, ?_, rq_t rD3⟩
          rw [rg_t, raw 9 _ _ (Or.inr (Or.inl rfl))]
          rfl
        · rw [if_neg gb, if_pos rfl, if_pos (show fn_lt 2147483647 (rg M 30075).2.2.2.1 from Classical.byContradiction (fun z => gb (hb.mpr z))), pm_fin h]
          exact ⟨_, rfl, rg_t.trans fn_fin_any, rq_t rD3⟩
      · rw [if_neg g10]
        have t : f_M_does1_b206 0 op nar (rt M 30077 fn_any) = some (rt M 30077 (fn_fin (fn_shift (mL M 16 6 30075) (mL M 16 7 30075) (mL M 16 8 30075) (mL M 16 9 30075) (mL M 16 10 30075) (mL M 16 11 30075) ((mL M 16 6 30076) &&& 31) 0 op))) := by
          unfold f_M_does1_b206 f_M_does1_b222
          rw [if_neg gn, if_neg g10, pd_223n h gn]
        rw [t]
        refine ⟨_, rfl, ?_, rq_t rD3⟩
        rw [rg_t]
        unfold fn_doe
        rw [if_neg gn, if_neg g10, g5, raw _ _ _ ho]
        rfl
  · rw [if_neg g, if_pos rfl, pm_fin h]
    refine ⟨_, rfl, ?_, rq_t rD3⟩
    rw [rg_t, fn_fin_any]
    have z : ∀ op2 : Int32, (op2 = 8 ∨ op2 = 9 ∨ op2 = 10) → fn_rawT (rg M 30075) (rg M 30076) op2 = fn_any := by
      intro op2 h2
      rw [raw _ _ _ h2]
      exact fn_sh_any (o2 := (mL M 16 7 30076)) g
    unfold fn_doe
    rw [b5, if_neg (show ¬ (rg M 30076).2.1 = 0 from g), z op ho, z 9 (Or.inr (Or.inl rfl)), fn_fin_any, ite_self, ite_self, ite_self]
theorem pd_0 (h : ps_M M) : ∃ M1, f_M_does1_b31 0 0 nar (rt M 30077 fn_any) = some M1 ∧ rg M1 30077 = fn_doe 0 nar (rg M 30075) (rg M 30076) ∧ rq rq_D M M1 := by
  unfold f_M_does1_b31
  rw [if_pos rfl]
  rw [doe_eq nar _ _ (by decide) rfl]
  rw [show (rt M 30077 fn_any) = (rn_put M 30077 0 (-1) 0 (-1) (-9223372036854775808) 9223372036854775807) from rfl, pm_add h, bd_some]
  exact pd_r h
theorem pd_1 (h : ps_M M) : ∃ M1, f_M_does1_b31 0 1 nar (rt M 30077 fn_any) = some M1 ∧ rg M1 30077 = fn_doe 1 nar (rg M 30075) (rg M 30076) ∧ rq rq_D M M1 := by
  unfold f_M_does1_b31
  rw [if_neg (by decide), if_pos rfl]
  rw [doe_eq nar _ _ (by decide) rfl]
  unfold f_M_does1_b53
  rw [show (rt M 30077 fn_any) = (rn_put M 30077 0 (-1) 0 (-1) (-9223372036854775808) 9223372036854775807) from rfl, pm_sub h, bd_some]
  exact pd_r h
theorem pd_2 (h : ps_M M) : ∃ M1, f_M_does1_b31 0 2 nar (rt M 30077 fn_any) = some M1 ∧ rg M1 30077 = fn_doe 2 nar (rg M 30075) (rg M 30076) ∧ rq rq_D M M1 := by
  unfold f_M_does1_b31
  rw [if_neg (by decide), if_neg (by decide), if_neg (by decide), if_pos rfl]
  rw [doe_eq nar _ _ (by decide) rfl]
  rw [show (rt M 30077 fn_any) = (rn_put M 30077 0 (-1) 0 (-1) (-9223372036854775808) 9223372036854775807) from rfl, pm_mul h, bd_some]
  exact pd_r h
theorem pd_3 (h : ps_M M) : ∃ M1, f_M_does1_b31 0 3 nar (rt M 30077 fn_any) = some M1 ∧ rg M1 30077 = fn_doe 3 nar (rg M 30075) (rg M 30076) ∧ rq rq_D M M1 := by
  unfold f_M_does1_b31
  rw [if_neg (by decide), if_neg (by decide), if_neg (by decide), if_neg (by decide), if_pos rfl]
  rw [doe_eq nar _ _ (by decide) rfl]
  rw [show (rt M 30077 fn_any) = (rn_put M 30077 0 (-1) 0 (-1) (-9223372036854775808) 9223372036854775807) from rfl, pm_div h, bd_some]
  exact pd_r h
theorem pd_4 (h : ps_M M) : ∃ M1, f_M_does1_b31 0 4 nar (rt M 30077 fn_any) = some M1 ∧ rg M1 30077 = fn_doe 4 nar (rg M 30075) (rg M 30076) ∧ rq rq_D M M1 := by
  unfold f_M_does1_b31
  rw [if_neg (by decide), if_neg (by decide), if_neg (by decide), if_neg (by decide), if_neg (by decide), if_pos rfl]
  rw [doe_eq nar _ _ (by decide) rfl]
  rw [show (rt M 30077 fn_any) = (rn_put M 30077 0 (-1) 0 (-1) (-9223372036854775808) 9223372036854775807) from rfl, pm_rest h, bd_some]
  exact pd_r h
theorem pd_5 (h : ps_M M) : ∃ M1, f_M_does1_b31 0 5 nar (rt M 30077 fn_any) = some M1 ∧ rg M1 30077 = fn_doe 5 nar (rg M 30075) (rg M 30076) ∧ rq rq_D M M1 := by
  unfold f_M_does1_b31
  rw [if_neg (by decide), if_neg (by decide), if_neg (by decide), if_neg (by decide), if_neg (by decide), if_neg (by decide), if_neg (by decide)]
  rw [doe_eq nar _ _ (by decide) rfl]
  rw [show (rt M 30077 fn_any) = (rn_put M 30077 0 (-1) 0 (-1) (-9223372036854775808) 9223372036854775807) from rfl, pm_and h, bd_some]
  exact pd_r h
theorem pd_6 (h : ps_M M) : ∃ M1, f_M_does1_b31 0 6 nar (rt M 30077 fn_any) = some M1 ∧ rg M1 30077 = fn_doe 6 nar (rg M 30075) (rg M 30076) ∧ rq rq_D M M1 := by
  unfold f_M_does1_b31
  rw [if_neg (by decide), if_neg (by decide), if_neg (by decide), if_neg (by decide), if_neg (by decide), if_neg (by decide), if_neg (by decide)]
  rw [doe_eq nar _ _ (by decide) rfl]
  rw [show (rt M 30077 fn_any) = (rn_put M 30077 0 (-1) 0 (-1) (-9223372036854775808) 9223372036854775807) from rfl, pm_or h, bd_some]
  obtain ⟨M1, a1, a2, a3⟩ := pd_r (r := ((mL M 16 6 30075) ||| (mL M 16 6 30076), ((mL M 16 7 30075) ||| (mL M 16 7 30076)) &&& (((mL M 16 6 30075) ||| (mL M 16 6 30076)) ^^^ -1), fn_max (mL M 16 8 30075) (mL M 16 8 30076), -1, -9223372036854775808, 9223372036854775807)) h
  refine ⟨M1, a1, ?_, a3⟩
  rw [a2]
  show _ = fn_fin ((mL M 16 6 30075) ||| (mL M 16 6 30076), ((mL M 16 7 30075) ||| (mL M 16 7 30076)) &&& (((mL M 16 6 30075) ||| (mL M 16 6 30076)) ^^^ -1), fn_max (fn_max 0 (mL M 16 8 30075)) (mL M 16 8 30076), -1, -9223372036854775808, 9223372036854775807)
  rw [fn_max0]
theorem pd_7 (h : ps_M M) : ∃ M1, f_M_does1_b31 0 7 nar (rt M 30077 fn_any) = some M1 ∧ rg M1 30077 = fn_doe 7 nar (rg M 30075) (rg M 30076) ∧ rq rq_D M M1 := by
  unfold f_M_does1_b31
  rw [if_neg (by decide), if_neg (by decide), if_neg (by decide), if_neg (by decide), if_neg (by decide), if_neg (by decide), if_neg (by decide)]
  rw [doe_eq nar _ _ (by decide) rfl]
  rw [show (rt M 30077 fn_any) = (rn_put M 30077 0 (-1) 0 (-1) (-9223372036854775808) 9223372036854775807) from rfl, pm_xor h, bd_some]
  exact pd_r (r := (((mL M 16 6 30075) ^^^ (mL M 16 6 30076)) &&& (((mL M 16 7 30075) ||| (mL M 16 7 30076)) ^^^ -1), (mL M 16 7 30075) ||| (mL M 16 7 30076), 0, -1, -9223372036854775808, 9223372036854775807)) h
theorem pd_12 (h : ps_M M) : ∃ M1, f_M_does1_b31 0 12 nar (rt M 30077 fn_any) = some M1 ∧ rg M1 30077 = fn_doe 12 nar (rg M 30075) (rg M 30076) ∧ rq rq_D M M1 := by
  unfold f_M_does1_b31
  rw [if_neg (by decide), if_neg (by decide), if_neg (by decide), if_neg (by decide), if_neg (by decide), if_neg (by decide), if_pos (by decide), if_pos rfl]
  rw [doe_eq nar _ _ (by decide) rfl]
  rw [pm_copy (ps_t h) ok_Y ok_R, bd_some, rg_L (by decide), rt_two]
  exact pd_r h
theorem pd_13 (h : ps_M M) : ∃ M1, f_M_does1_b31 0 13 nar (rt M 30077 fn_any) = some M1 ∧ rg M1 30077 = fn_doe 13 nar (rg M 30075) (rg M 30076) ∧ rq rq_D M M1 := by
  unfold f_M_does1_b31
  rw [if_neg (by decide), if_neg (by decide), if_neg (by decide), if_neg (by decide), if_neg (by decide), if_neg (by decide), if_pos (by decide), if_neg (by decide), if_pos rfl]
  rw [doe_eq nar _ _ (by decide) rfl]
  rw [show (rt M 30077 fn_any) = (rn_put M 30077 0 (-1) 0 (-1) (-9223372036854775808) 9223372036854775807) from rfl, pm_bytes h, b2_some]
  have key : ∀ n : Nat, (n = 2 ∨ n = 4 ∨ n = 8) → (fn_swp (mL M 16 6 30075) (mL M 16 7 30075) (mL M 16 6 30076) (mL M 16 7 30076) = if (mL M 16 7 30075) = 0 then fn_ex (fn_swap (mL M 16 6 30075) n) else if n = 2 then (0, -1, 0, 65535, -9223372036854775808, 9223372036854775807) else if n = 4 then (0, -1, 0, 4294967295, -9223372036854775808, 9223372036854775807) else fn_any) → ∃ M1, bd (f_M_swap (rn_put M 30077 0 (-1) 0 (-1) (-9223372036854775808) 9223372036854775807) 0 (nI n)) (fun (M38 : me_M) => f_M_does1_b249 0 M38) = some M1 ∧ rg M1 30077 = fn_fin (fn_rawT (rg M 30075) (rg M 30076) 13) ∧ rq rq_D M M1 := by
    intro n hn he
    rw [pm_swap h hn, bd_some, ← he]
    exact pd_r h
  unfold fn_swp at key
  by_cases g1 : (mL M 16 7 30076) = 0 ∧ (mL M 16 6 30076) = 2
  · rw [if_pos g1] at key ⊢
    exact key 2 (Or.inl rfl) (by rw [if_pos rfl])
  · rw [if_neg g1] at key ⊢
    by_cases g2 : (mL M 16 7 30076) = 0 ∧ (mL M 16 6 30076) = 4
    · rw [if_pos g2] at key ⊢
      exact key 4 (Or.inr (Or.inl rfl)) (by rw [if_neg (show ¬ (4 : Nat) = 2 by decide), if_pos rfl])
    · rw [if_neg g2] at key ⊢
      exact key 8 (Or.inr (Or.inr rfl)) (by rw [if_neg (show ¬ (8 : Nat) = 2 by decide), if_neg (show ¬ (8 : Nat) = 4 by decide)])
theorem pd_cut (h : ps_M M) {n : Int32} {t : Int64} (ht : f_M_top n = some t) : ∃ M1, bd (f_M_cut (rt M 30077 fn_any) 0 n) (fun (M35 : me_M) => f_M_does1_b249 0 M35) = some M1 ∧ rg M1 30077 = fn_fin (fn_cut (mL M 16 6 30075) (mL M 16 7 30075) (mL M 16 8 30075) (mL M 16 9 30075) (mL M 16 10 30075) (mL M 16 11 30075) t) ∧ rq rq_D M M1 := by
  unfold f_M_cut fn_cut
  rw [ht, bd_some, show mR (rt M 30077 fn_any) 1 0 55 = some 9 from rs_55 h, bd_some, show mZ (rt M 30077 fn_any) 16 9 = 30081 from rz_16_9 h, gX, show mL (rt M 30077 fn_any) 16 9 30075 = (mL M 16 9 30075) from rX_3, pm_below, bd_some]
  by_cases g : fn_lt t (mL M 16 9 30075)
  · rw [if_pos g, if_neg (by decide), if_pos g, bd_some, pm_exact (ps_t h) ok_Y, bd_some]
    have hN : ps_M (rt M 30076 (fn_ex t)) := ps_t h
    have sw : rt (rt M 30077 fn_any) 30076 (fn_ex t) = rt (rt M 30076 (fn_ex t)) 30077 fn_any := rt_cm (by decide)
    rw [sw, show rt (rt M 30076 (fn_ex t)) 30077 fn_any = rn_put (rt M 30076 (fn_ex t)) 30077 0 (-1) 0 (-1) (-9223372036854775808) 9223372036854775807 from rfl, pm_and hN, bd_some, bd_some]
    have e1 : rg (rt M 30076 (fn_ex t)) 30076 = fn_ex t := rg_t
    have e2 : rg (rt M 30076 (fn_ex t)) 30075 = rg M 30075 := rg_L (by decide)
    have e3 : fn_and (mL (rt M 30076 (fn_ex t)) 16 6 30075) (mL (rt M 30076 (fn_ex t)) 16 7 30075) (mL (rt M 30076 (fn_ex t)) 16 9 30075) (mL (rt M 30076 (fn_ex t)) 16 6 30076) (mL (rt M 30076 (fn_ex t)) 16 7 30076) (mL (rt M 30076 (fn_ex t)) 16 9 30076) = fn_and (mL M 16 6 30075) (mL M 16 7 30075) (mL M 16 9 30075) t 0 t := by
      show fn_and (rg (rt M 30076 (fn_ex t)) 30075).1 (rg (rt M 30076 (fn_ex t)) 30075).2.1 (rg (rt M 30076 (fn_ex t)) 30075).2.2.2.1 (rg (rt M 30076 (fn_ex t)) 30076).1 (rg (rt M 30076 (fn_ex t)) 30076).2.1 (rg (rt M 30076 (fn_ex t)) 30076).2.2.2.1 = _
      rw [e1, e2]
      rfl
    rw [e3, pm_fin hN]
    exact ⟨_, rfl, rg_t, rq_trans (rq_t rD2) (rq_t rD3)⟩
  · rw [if_neg g, if_pos rfl, if_neg g, pm_copy (ps_t h) ok_X ok_R, bd_some, bd_some, rg_L (by decide), rt_two]
    exact pd_r (r := rg M 30075) h
theorem pd_14 (h : ps_M M) : ∃ M1, f_M_does1_b31 0 14 nar (rt M 30077 fn_any) = some M1 ∧ rg M1 30077 = fn_doe 14 nar (rg M 30075) (rg M 30076) ∧ rq rq_D M M1 := by
  unfold f_M_does1_b31
  rw [if_neg (by decide), if_neg (by decide), if_neg (by decide), if_neg (by decide), if_neg (by decide), if_neg (by decide), if_pos (by decide), if_neg (by decide), if_neg (by decide), if_pos rfl]
  rw [doe_eq nar _ _ (by decide) rfl]
  rw [show (rt M 30077 fn_any) = (rn_put M 30077 0 (-1) 0 (-1) (-9223372036854775808) 9223372036854775807) from rfl, pm_bytes h, b2_some]
  show ∃ M1, _ ∧ rg M1 30077 = fn_fin (if (mL M 16 7 30076) = 0 ∧ (mL M 16 6 30076) = 2 then fn_cut (mL M 16 6 30075) (mL M 16 7 30075) (mL M 16 8 30075) (mL M 16 9 30075) (mL M 16 10 30075) (mL M 16 11 30075) 65535 else if (mL M 16 7 30076) = 0 ∧ (mL M 16 6 30076) = 4 then fn_cut (mL M 16 6 30075) (mL M 16 7 30075) (mL M 16 8 30075) (mL M 16 9 30075) (mL M 16 10 30075) (mL M 16 11 30075) 4294967295 else fn_cut (mL M 16 6 30075) (mL M 16 7 30075) (mL M 16 8 30075) (mL M 16 9 30075) (mL M 16 10 30075) (mL M 16 11 30075) (-1)) ∧ _
  by_cases g1 : (mL M 16 7 30076) = 0 ∧ (mL M 16 6 30076) = 2
  · rw [if_pos g1, if_pos g1]
    exact pd_cut h rfl
  · rw [if_neg g1, if_neg g1]
    by_cases g2 : (mL M 16 7 30076) = 0 ∧ (mL M 16 6 30076) = 4
    · rw [if_pos g2, if_pos g2]
      exact pd_cut h rfl
    · rw [if_neg g2, if_neg g2]
      exact pd_cut h rfl
theorem pm_does (h : ps_M M) (ho : op_ok op) : ∃ M1, f_M_does1 M 0 op nar = some M1 ∧ rg M1 30077 = fn_doe op nar (rg M 30075) (rg M 30076) ∧ rq rq_D M M1 := by
  unfold f_M_does1
  rw [pm_any h ok_R, bd_some]
  rcases ho with rfl | rfl | rfl | rfl | rfl | rfl | rfl | rfl | rfl | rfl | rfl | rfl | rfl | rfl | rfl
  · rw [if_neg (by decide)]; exact pd_0 h
  · rw [if_neg (by decide)]; exact pd_1 h
  · rw [if_neg (by decide)]; exact pd_2 h
  · rw [if_neg (by decide)]; exact pd_3 h
  · rw [if_neg (by decide)]; exact pd_4 h
  · rw [if_neg (by decide)]; exact pd_5 h
  · rw [if_neg (by decide)]; exact pd_6 h
  · rw [if_neg (by decide)]; exact pd_7 h
  · rw [if_neg (by decide)]; exact pd_sh h (Or.inl rfl)
  · rw [if_neg (by decide)]; exact pd_sh h (Or.inr (Or.inl rfl))
  · rw [if_neg (by decide)]; exact pd_sh h (Or.inr (Or.inr rfl))
  · rw [if_pos rfl, pm_copy (ps_t h) ok_X ok_Y, bd_some, pm_exact (ps_t (ps_t h)) ok_X, bd_some, rg_L (by decide)]
    have sw : rt (rt (rt M 30077 fn_any) 30076 (rg M 30075)) 30075 (fn_ex 0) = rt (rt (rt M 30076 (rg M 30075)) 30075 (fn_ex 0)) 30077 fn_any := by
      rw [rt_cm (M := M) (i := 30077) (q := 30076) (by decide), rt_cm (i := 30077) (q := 30075) (by decide)]
    rw [sw]
    have hN : ps_M (rt (rt M 30076 (rg M 30075)) 30075 (fn_ex 0)) := ps_t (ps_t h)
    unfold f_M_does1_b31 f_M_does1_b53
    rw [if_neg (by decide), if_neg (by decide), if_pos rfl]
    rw [show rt (rt (rt M 30076 (rg M 30075)) 30075 (fn_ex 0)) 30077 fn_any = rn_put (rt (rt M 30076 (rg M 30075)) 30075 (fn_ex 0)) 30077 0 (-1) 0 (-1) (-9223372036854775808) 9223372036854775807 from rfl, pm_sub hN, bd_some]
    have e1 : rg (rt (rt M 30076 (rg M 30075)) 30075 (fn_ex 0)) 30075 = fn_ex 0 := rg_t
    have e2 : rg (rt (rt M 30076 (rg M 30075)) 30075 (fn_ex 0)) 30076 = rg M 30075 := (rg_L (by decide)).trans rg_t
    have q9 : rq rq_D M (rt (rt M 30076 (rg M 30075)) 30075 (fn_ex 0)) := rq_trans (rq_t rD2) (rq_t rD1)
    generalize rt (rt M 30076 (rg M 30075)) 30075 (fn_ex 0) = N at hN e1 e2 q9
    obtain ⟨M1, a1, a2, a3⟩ := pd_r (r := fn_sub (rg N 30075).1 (rg N 30075).2.1 (rg N 30075).2.2.1 (rg N 30075).2.2.2.1 (rg N 30075).2.2.2.2.1 (rg N 30075).2.2.2.2.2 (rg N 30076).1 (rg N 30076).2.1 (rg N 30076).2.2.1 (rg N 30076).2.2.2.1 (rg N 30076).2.2.2.2.1 (rg N 30076).2.2.2.2.2) hN
    refine ⟨M1, a1, ?_, rq_trans q9 a3⟩
    rw [a2, e1, e2, doe_eq nar _ _ (by decide) rfl]
    rfl
  · rw [if_neg (by decide)]; exact pd_12 h
  · rw [if_neg (by decide)]; exact pd_13 h
  · rw [if_neg (by decide)]; exact pd_14 h
end RD
