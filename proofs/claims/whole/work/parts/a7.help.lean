/-! PURE: helpers: their arguments, what they give; the class's. -/
abbrev s_q (σ : sT) (q : Int32) : Prop := c_able (σ (sl q)) (jishl 1 (q &&& 7))
/-- bytes of the stack that can be read -/
def s_able (σ : sT) (p n : Int32) : Prop := ¬ p < -512 ∧ p + n ≤ 0 ∧ ∀ q : Int32, p.toInt ≤ q.toInt → q.toInt < (p + n).toInt → s_q σ q
noncomputable def s_frd (vb : Int32 → Int32) (σ : sT) (p : sC) (n : Int32) : Int32 :=
  if cK p = 0 then 10 else if cK p = 3 then (if b1 (s_able σ (cPl p) n) = 0 then 17 else 0) else if cK p = 4 then (if b1 (s_inp p (cPl p) n.toInt64) = 0 then 17 else 0) else if cK p = 7 then (if b1 (s_inv vb p (cPl p) n.toInt64) = 0 then 17 else 0) else 17
noncomputable def s_fa1 (c : Int64) (kb vb : Int32 → Int32) (σ : sT) (l : sC) (k : Int32) : Int32 :=
  if cK l = k then (if d_field c = 4 then 0 else if d_field c = 6 then (if fn_lt 512 (cX l).2.2.2.1 then 17 else s_frd vb σ (σ 1) (cX l).2.2.2.1.toInt32) else if s_frd vb σ (σ 2) (kb (cM l)) = 0 then (if d_field c = 2 then s_frd vb σ (σ 3) (vb (cM l)) else 0) else s_frd vb σ (σ 2) (kb (cM l)))
  else if cK l = 0 then 10 else 17
noncomputable def s_far (c : Int64) (kb vb : Int32 → Int32) (σ : sT) : Int32 :=
  if d_field c = 5 then 0 else if d_field c = 6 then s_fa1 c kb vb σ (σ 2) 1 else if d_field c = 4 then s_fa1 c kb vb σ (σ 1) 1 else s_fa1 c kb vb σ (σ 1) 6
/-- registers 1 to 5 are lost -/
def s_lost (σ : sT) : sT := fun i => if 1 ≤ i ∧ i ≤ 5 then s_bare 0 else σ i
def s_give (c : Int64) (m : Int32) (σ : sT) (ids : Int32) : sR :=
  if d_field c = 1 then .ok (up (s_lost σ) 0 (8, 0, m, ids + 1, 0, 0, fn_ex 0), ids + 1) else if d_field c = 4 then .ok (up (s_lost σ) 0 (s_num (fn_ex 0)), ids) else if d_field c = 6 then .ok (up (s_lost σ) 0 (s_num (fn_rd 4)), ids) else .ok (up (s_lost σ) 0 (s_num fn_any), ids)
noncomputable def s_help (c : Int64) (kb vb : Int32 → Int32) (σ : sT) (ids : Int32) : sR :=
  if s_far c kb vb σ = 0 then s_give c (cM (σ 1)) σ ids else .error (s_far c kb vb σ)
theorem pI_two {M : me_M} {k j f : Nat} {v w : Int32} : wI (wI M k j f v) k j f w = wI M k j f w := me_ext (by
  funext x y z
  show (if x = k ∧ y = j ∧ z = f then w else if x = k ∧ y = j ∧ z = f then v else mI M x y z) = if x = k ∧ y = j ∧ z = f then w else mI M x y z
  by_cases h : x = k ∧ y = j ∧ z = f
  · rw [if_pos h, if_pos h]
  · rw [if_neg h, if_neg h, if_neg h]) rfl rfl rfl rfl
section CH
variable {M M1 M2 : me_M} {s : Nat} {c : Int64} {nm : Nat} {kb vb : Int32 → Int32}
theorem st_able_l (h : stp M s c) {p n : Int32} (hE : (p + n).toInt ≤ 0) : ∀ (k fu : Nat) (y : Int32) (A : me_M), (∃ w v, A = wI M 9 s 1 w ∧ us A s v) → (y.toInt + (k : Int) = (p + n).toInt) → -512 ≤ y.toInt → k < fu → ∃ A1, f_Steps_isStackReadable_l17 0 p n fu A y = some (A1, b1 (∀ q : Int32, y.toInt ≤ q.toInt → q.toInt < (p + n).toInt → s_q (sv M s) q)) ∧ ∃ w v, A1 = wI M 9 s 1 w ∧ us A1 s v := by
  intro k
  induction k with
  | zero =>
    intro fu y A hA he hy hf
    obtain ⟨f2, rfl⟩ : ∃ f2, fu = f2 + 1 := ⟨fu - 1, by omega⟩
    rw [f_Steps_isStackReadable_l17, if_pos (by rw [Int32.le_iff_toInt_le]; omega), b1_t (fun q h1 h2 => by omega)]
    exact ⟨A, rfl, hA⟩
  | succ k ih =>
    intro fu y A hA he hy hf
    obtain ⟨f2, rfl⟩ : ∃ f2, fu = f2 + 1 := ⟨fu - 1, by omega⟩
    obtain ⟨w, v, eA, uA⟩ := hA
    have tA : tk s M A := by rw [eA]; exact tk_used ⟨v, by rw [← eA]; exact uA⟩
    have hsA : stp A s c := stp_fr h tA.1
    rw [f_Steps_isStackReadable_l17, if_neg (by rw [Int32.le_iff_toInt_le]; omega), hsA.2.2.2.2.2.2.2.2.2.2.1, bd_some]
    obtain ⟨B, v2, b1', b2', b3', b4', b5', b6'⟩ := st_slot hsA uA hy (by omega)
    have eB : B = wI M 9 s 1 (nI v2) := by rw [b6', eA, pI_two]
    have svB : sv B s = sv M s := by funext i; rw [eB]; rfl
    rw [b1', b2_some, ce_able, b2_some]
    have ec : cv B (75 * s + sl y + 1) = sv M s (sl y) := by rw [eB]; rfl
    rw [ec]
    have ey : (y + 1).toInt = y.toInt + 1 := add_b (by omega) (by omega) (by decide) (by decide)
    by_cases g : c_able (sv M s (sl y)) (jishl 1 (y &&& 7))
    · rw [if_pos g, if_neg (by decide)]
      obtain ⟨A1, c1, c2⟩ := ih f2 (y + 1) B ⟨_, v2, eB, b4'⟩ (by omega) (by omega) (by omega)
      rw [c1]
      refine ⟨A1, congrArg (fun z => some (A1, z)) (b1_c ⟨?_, ?_⟩), c2⟩
      · intro z q h1 h2
        by_cases e : q.toInt = y.toInt
        · rw [Int32.toInt_inj.mp e]; exact g
        · exact z q (by omega) h2
      · intro z q h1 h2
        exact z q (by omega) h2
    · rw [if_neg g, if_pos rfl]
      refine ⟨B, congrArg (fun z => some (B, z)) (b1_f (fun z => g (z y (by omega) (by omega)))).symm, _, v2, eB, b4'⟩
theorem st_able (h : stp M s c) {u : Nat} (hu : us M s u) {p n : Int32} (hp1 : -65535 ≤ p.toInt) (hp2 : p.toInt ≤ 65535) (hn : 0 ≤ n.toInt) (hn2 : n.toInt ≤ 512) : ∃ A1, f_Steps_isStackReadable M 0 p n = some (A1, b1 (s_able (sv M s) p n)) ∧ ∃ w v, A1 = wI M 9 s 1 w ∧ us A1 s v := by
  have self : ∃ w v, M = wI M 9 s 1 w ∧ us M s v := by
    refine ⟨mI M 9 s 1, u, ?_, hu⟩
    refine me_ext ?_ rfl rfl rfl rfl
    funext x y z
    show mI M x y z = if x = 9 ∧ y = s ∧ z = 1 then mI M 9 s 1 else mI M x y z
    by_cases q : x = 9 ∧ y = s ∧ z = 1
    · rw [if_pos q, q.1, q.2.1, q.2.2]
    · rw [if_neg q]
  have ea : (p + n).toInt = p.toInt + n.toInt := add_b (by omega) (by omega) (by omega) (by omega)
  unfold f_Steps_isStackReadable
  by_cases g : p < -512
  · rw [if_pos g]
    exact ⟨M, congrArg (fun z => some (M, z)) (b1_f (fun z => z.1 g)).symm, self⟩
  · rw [if_neg g]
    by_cases g2 : p + n ≤ 0
    · rw [if_pos g2]
      have g3 : -512 ≤ p.toInt := by
        rw [Int32.lt_iff_toInt_lt] at g
        have e5 : (-512 : Int32).toInt = -512 := rfl
        omega
      have g4 : (p + n).toInt ≤ 0 := by
        rw [Int32.le_iff_toInt_le] at g2
        exact g2
      obtain ⟨A1, c1, c2⟩ := st_able_l h g4 n.toInt.toNat fuel p M self (by omega) g3 (by unfold fuel; omega)
      rw [c1]
      exact ⟨A1, congrArg (fun z => some (A1, z)) (b1_c ⟨fun z => ⟨g, g2, z⟩, fun z => z.2.2⟩), c2⟩
    · rw [if_neg g2]
      exact ⟨M, congrArg (fun z => some (M, z)) (b1_f (fun z => g2 z.2.1)).symm, self⟩
theorem wI_self : wI M 9 s 1 (mI M 9 s 1) = M := by
  refine me_ext ?_ rfl rfl rfl rfl
  funext x y z
  show (if x = 9 ∧ y = s ∧ z = 1 then mI M 9 s 1 else mI M x y z) = mI M x y z
  by_cases q : x = 9 ∧ y = s ∧ z = 1
  · rw [if_pos q, q.1, q.2.1, q.2.2]
  · rw [if_neg q]
/-- in value, of any pointer to a value -/
theorem st_inv (h : stp M s c) (hs : sto M nm kb vb) {y : Nat} (hy : mR M 10 y 6 = some (nu y)) (k7 : cK (cv M y) = 7) {m : Nat} (hm1 : m < nm) (hm2 : cM (cv M y) = nI m) {pl : Int32} {n : Int64} : f_Steps_isInValue M 0 y pl n = some (M, b1 (s_inv vb (cv M y) pl n)) := by
  have em : mI M 10 y 2 = nI m := by
    rw [← hm2]
    have k7' : mI M 10 y 0 = 7 := k7
    unfold cv cn
    exact (if_pos (Or.inr (Or.inl k7'))).symm
  have eX : cX (cv M y) = pg M (nu y) := cv_n (Or.inr (Or.inr k7))
  unfold f_Steps_isInValue s_inv
  have := hs.1
  rw [h.2.2.2.2.2.1, bd_some, em, hs.2.1, gd_pos (ix_ok (by omega) (by decide)), nI_tn (by omega), (hs.2.2 m hm1).1, bd_some, st_eq, hy, bd_some, (hs.2.2 m hm1).2.2, eX, hm2]
  show (if pl.toInt64 + (pg M (nu y)).2.2.1 < 0 then _ else if (vb (nI m)).toInt64 < pl.toInt64 + (pg M (nu y)).2.2.2.1 + n then _ else _) = _
  by_cases g1 : pl.toInt64 + (pg M (nu y)).2.2.1 < 0
  · rw [if_pos g1, b1_f (fun z => z.1 g1)]
  · rw [if_neg g1]
    by_cases g2 : (vb (nI m)).toInt64 < pl.toInt64 + (pg M (nu y)).2.2.2.1 + n
    · rw [if_pos g2, b1_f (fun z => z.2 g2)]
    · rw [if_neg g2, b1_t ⟨g1, g2⟩]
/-- the fault of reading n bytes at the pointer in register i; the state's cells are left -/
theorem st_frd (h : stp M s c) (hs : sto M nm kb vb) {u : Nat} (hu : us M s u) (hw : s_wf nm (sv M s)) {i : Nat} (hi : i < 11) {n : Int32} (hn : 0 ≤ n.toInt) (hn2 : n.toInt ≤ 512) : ∃ A, f_Steps_faultOfReading M 0 (75 * s + i + 1) n = some (A, s_frd vb (sv M s) (sv M s i) n) ∧ ∃ w v, A = wI M 9 s 1 w ∧ us A s v := by
  have self : ∃ w v, M = wI M 9 s 1 w ∧ us M s v := ⟨_, u, wI_self.symm, hu⟩
  have hb := (hw i (by omega)).1
  have ec : cv M (75 * s + i + 1) = sv M s i := rfl
  have ek : mI M 10 (75 * s + i + 1) 0 = cK (sv M s i) := rfl
  unfold f_Steps_faultOfReading s_frd
  rw [ek]
  by_cases k0 : cK (sv M s i) = 0
  · rw [if_pos k0, if_pos k0]; exact ⟨M, rfl, self⟩
  rw [if_neg k0, if_neg k0]
  by_cases k1 : cK (sv M s i) = 1
  · rw [if_pos k1, if_neg (show ¬ cK (sv M s i) = 3 by rw [k1]; decide), if_neg (show ¬ cK (sv M s i) = 4 by rw [k1]; decide), if_neg (show ¬ cK (sv M s i) = 7 by rw [k1]; decide)]; exact ⟨M, rfl, self⟩
  rw [if_neg k1]
  by_cases k2 : cK (sv M s i) = 2
  · rw [if_pos k2, if_neg (show ¬ cK (sv M s i) = 3 by rw [k2]; decide), if_neg (show ¬ cK (sv M s i) = 4 by rw [k2]; decide), if_neg (show ¬ cK (sv M s i) = 7 by rw [k2]; decide)]; exact ⟨M, rfl, self⟩
  rw [if_neg k2]
  by_cases k3 : cK (sv M s i) = 3
  · rw [if_pos k3, if_pos k3]
    have epl : mI M 10 (75 * s + i + 1) 1 = cPl (sv M s i) := (cv_ptr (M := M) (y := 75 * s + i + 1) (Or.inr (Or.inl k3))).symm
    rw [epl]
    obtain ⟨A, a1, a2⟩ := st_able h hu hb.1 hb.2 hn hn2
    rw [a1, b2_some]
    split
    · exact ⟨A, rfl, a2⟩
    · exact ⟨A, rfl, a2⟩
  rw [if_neg k3, if_neg k3]
  by_cases k4 : cK (sv M s i) = 4
  · rw [if_pos k4, if_pos k4]
    have epl : mI M 10 (75 * s + i + 1) 1 = cPl (sv M s i) := (cv_ptr (M := M) (y := 75 * s + i + 1) (Or.inr (Or.inr (Or.inl k4)))).symm
    have er : mI M 10 (75 * s + i + 1) 4 = cR (sv M s i) := by
      have k4' : mI M 10 (75 * s + i + 1) 0 = 4 := k4
      show _ = cR (cv M (75 * s + i + 1))
      unfold cv cn
      exact (if_pos k4').symm
    have ei : f_Steps_isInPacket M 0 (75 * s + i + 1) (cPl (sv M s i)) n.toInt64 = some (M, b1 (s_inp (sv M s i) (cPl (sv M s i)) n.toInt64)) := by
      unfold f_Steps_isInPacket s_inp
      rw [er]
      by_cases g1 : cPl (sv M s i) < 0
      · rw [if_pos g1, b1_f (fun z => z.1 g1)]
      · rw [if_neg g1]
        by_cases g2 : (cR (sv M s i)).toInt64 < (cPl (sv M s i)).toInt64 + n.toInt64
        · rw [if_pos g2, b1_f (fun z => z.2 g2)]
        · rw [if_neg g2, b1_t ⟨g1, g2⟩]
    rw [epl, ei, b2_some]
    split
    · exact ⟨M, rfl, self⟩
    · exact ⟨M, rfl, self⟩
  rw [if_neg k4, if_neg k4]
  by_cases k5 : cK (sv M s i) = 5
  · rw [if_pos k5, if_neg (show ¬ cK (sv M s i) = 7 by rw [k5]; decide)]; exact ⟨M, rfl, self⟩
  rw [if_neg k5]
  by_cases k6 : cK (sv M s i) = 6
  · rw [if_pos k6, if_neg (show ¬ cK (sv M s i) = 7 by rw [k6]; decide)]; exact ⟨M, rfl, self⟩
  rw [if_neg k6]
  by_cases k7 : cK (sv M s i) = 7
  · rw [if_pos k7, if_pos k7]
    have epl : mI M 10 (75 * s + i + 1) 1 = cPl (sv M s i) := (cv_ptr (M := M) (y := 75 * s + i + 1) (Or.inr (Or.inr (Or.inr k7)))).symm
    obtain ⟨m, hm1, hm2⟩ := (hw i (by omega)).2 (Or.inr (Or.inl k7))
    rw [epl, st_inv h hs (st_cell h (by omega)) k7 hm1 hm2, b2_some, ec]
    split
    · exact ⟨M, rfl, self⟩
    · exact ⟨M, rfl, self⟩
  rw [if_neg k7, if_neg k7]
  exact ⟨M, rfl, self⟩
theorem up_w {A : me_M} {w : Int32} {v : Nat} (e : A = wI M 9 s 1 w) (hv : us A s v) (h : stp M s c) (hs : sto M nm kb vb) : tk s M A ∧ stp A s c ∧ sto A nm kb vb ∧ sv A s = sv M s ∧ mI A 7 0 7 = mI M 7 0 7 := by
  subst e
  have t : tk s M (wI M 9 s 1 w) := tk_used ⟨v, hv⟩
  exact ⟨t, stp_fr h t.1, hs, rfl, rfl⟩
theorem un_512 {x : Int64} (h : ¬ fn_lt 512 x) : 0 ≤ x.toInt32.toInt ∧ x.toInt32.toInt ≤ 512 := by
  rw [fn_lt_un] at h
  have a1 : un 512 = 512 := by decide
  rw [a1] at h
  have e : x = Int64.ofNat (un x) := un_inj (un_of (un_lt x)).symm
  have k : ∀ n, n < 513 → 0 ≤ (Int64.ofNat n).toInt32.toInt ∧ (Int64.ofNat n).toInt32.toInt ≤ 512 := by decide +kernel
  rw [e]
  exact k _ (by omega)
theorem st_far (h : stp M s c) (hs : sto M nm kb vb) {u : Nat} (hu : us M s u) (hw : s_wf nm (sv M s)) (hk : ∀ m, m < nm → 0 ≤ (kb (nI m)).toInt ∧ (kb (nI m)).toInt ≤ 512 ∧ 0 ≤ (vb (nI m)).toInt ∧ (vb (nI m)).toInt ≤ 512) : ∃ A, f_Steps_faultOfArguments M 0 = some (A, s_far c kb vb (sv M s)) ∧ ∃ w v, A = wI M 9 s 1 w ∧ us A s v := by
  have self : ∃ w v, M = wI M 9 s 1 w ∧ us M s v := ⟨_, u, wI_self.symm, hu⟩
  have l5 : mI M 2 0 9 = d_field c := h.1.2.2.2.2.1
  have cell : ∀ i, i < 75 → mR M 18 s i = some (75 * s + i + 1) := fun i hi => h.2.1.2.1 s i h.2.2.2.1 hi
  have zs : mZ M 18 s = 75 := (h.2.1.1 s h.2.2.2.1).2
  have b65 : ∀ (i : Nat) (k : Int32), i < 11 → (k = 1 ∨ k = 6) → (k = 1 → d_field c = 4 ∨ d_field c = 6) → (k = 6 → ¬ d_field c = 4 ∧ ¬ d_field c = 6) → ∃ A, f_Steps_faultOfArguments_b65 0 M (75 * s + i + 1) k = some (A, s_fa1 c kb vb (sv M s) (sv M s i) k) ∧ ∃ w v, A = wI M 9 s 1 w ∧ us A s v := by
    intro i k hi hk0 hk1 hk6
    have ek : mI M 10 (75 * s + i + 1) 0 = cK (sv M s i) := rfl
    unfold f_Steps_faultOfArguments_b65 s_fa1
    rw [ek]
    by_cases g : cK (sv M s i) = k
    · rw [if_pos g, if_pos g, h.2.2.2.2.1, bd_some, l5]
      by_cases f4 : d_field c = 4
      · rw [if_pos f4, if_pos f4]; exact ⟨M, rfl, self⟩
      rw [if_neg f4, if_neg f4]
      by_cases f6 : d_field c = 6
      · rw [if_pos f6, if_pos f6, st_cell h (by omega), bd_some, pf_isAbove, b2_some]
        have k1 : k = 1 := by
          rcases hk0 with r | r
          · exact r
          · exact absurd f6 (hk6 r).2
        have eX : cX (sv M s i) = pg M (nu (75 * s + i + 1)) := cv_n (Or.inl (g.trans k1))
        have e3 : mL M 11 (nu (75 * s + i + 1)) 3 = (cX (sv M s i)).2.2.2.1 := by rw [eX]; rfl
        rw [e3]
        by_cases g2 : fn_lt 512 (cX (sv M s i)).2.2.2.1
        · rw [if_pos g2, if_neg (by decide), if_pos g2]; exact ⟨M, rfl, self⟩
        · rw [if_neg g2, if_pos rfl, if_neg g2, h.2.2.2.2.2.2.2.2.2.1, bd_some, zs, gd_pos (by decide), cell 1 (by decide), bd_some]
          have hb := un_512 g2
          obtain ⟨A, a1, a2⟩ := st_frd (i := 1) h hs hu hw (by decide) hb.1 hb.2
          rw [a1, b2_some]
          exact ⟨A, rfl, a2⟩
      rw [if_neg f6, if_neg f6]
      have k6 : k = 6 := by
        rcases hk0 with r | r
        · exact absurd (hk1 r) (fun z => z.elim f4 f6)
        · exact r
      obtain ⟨m, hm1, hm2⟩ := (hw i (by omega)).2 (Or.inl (g.trans k6))
      have em : mI M 10 (75 * s + i + 1) 2 = nI m := by
        rw [← hm2]
        have k6' : mI M 10 (75 * s + i + 1) 0 = 6 := g.trans k6
        show _ = cM (cv M (75 * s + i + 1))
        unfold cv cn
        exact (if_pos (Or.inl k6')).symm
      have hs1 := hs.1
      have kk := hk m hm1
      rw [h.2.2.2.2.2.1, bd_some, em, hs.2.1, gd_pos (ix_ok (by omega) (by decide)), nI_tn (by omega), (hs.2.2 m hm1).1, bd_some, h.2.2.2.2.2.2.2.2.2.1, bd_some, zs, gd_pos (by decide), cell 2 (by decide), bd_some, (hs.2.2 m hm1).2.1, hm2]
      obtain ⟨A, a1, w, v, a2, a3⟩ := st_frd (i := 2) h hs hu hw (by decide) kk.1 kk.2.1
      obtain ⟨t1, t2, t3, t4, t5⟩ := up_w a2 a3 h hs
      have l5A : mI A 2 0 9 = d_field c := t2.1.2.2.2.2.1
      rw [a1, b2_some, l5A]
      by_cases r0 : s_frd vb (sv M s) (sv M s 2) (kb (nI m)) = 0
      · rw [if_pos r0, if_pos r0]
        by_cases f2 : d_field c = 2
        · rw [if_pos f2, if_pos f2, gd_pos (by decide), cell 3 (by decide), bd_some, (t3.2.2 m hm1).2.2]
          obtain ⟨B, b1', w2, v2, b2', b3'⟩ := st_frd (i := 3) t2 t3 a3 (by rw [t4]; exact hw) (by decide) kk.2.2.1 kk.2.2.2
          rw [b1', b2_some, t4]
          exact ⟨B, rfl, w2, v2, by rw [b2', a2, pI_two], b3'⟩
        · rw [if_neg f2, if_neg f2, r0]
          exact ⟨A, rfl, w, v, a2, a3⟩
      · rw [if_neg r0, if_neg r0]
        exact ⟨A, rfl, w, v, a2, a3⟩
    · rw [if_neg g, if_neg g]
      by_cases k0 : cK (sv M s i) = 0
      · rw [if_pos k0, if_pos k0]; exact ⟨M, rfl, self⟩
      · rw [if_neg k0, if_neg k0]; exact ⟨M, rfl, self⟩
  unfold f_Steps_faultOfArguments f_Steps_faultOfArguments_b34 f_Steps_faultOfArguments_b59 s_far
  rw [h.2.2.2.2.1, bd_some, l5]
  by_cases f5 : d_field c = 5
  · rw [if_pos f5, if_pos f5]; exact ⟨M, rfl, self⟩
  rw [if_neg f5, if_neg f5, h.2.2.2.2.2.2.2.2.2.1, bd_some]
  by_cases f6 : d_field c = 6
  · have f4 : ¬ d_field c = 4 := by rw [f6]; decide
    rw [if_pos f6, if_pos f6, zs, gd_pos (by decide), show (2 : Int32).toNatClampNeg = 2 from rfl, cell 2 (by decide), bd_some, bd_some, l5, if_neg f4, if_pos f6]
    exact b65 2 1 (by decide) (Or.inl rfl) (fun _ => Or.inr f6) (fun z => absurd z (by decide))
  · rw [if_neg f6, if_neg f6, zs, gd_pos (by decide), show (1 : Int32).toNatClampNeg = 1 from rfl, cell 1 (by decide), bd_some, bd_some, l5]
    by_cases f4 : d_field c = 4
    · rw [if_pos f4, if_pos f4]
      exact b65 1 1 (by decide) (Or.inl rfl) (fun _ => Or.inl f4) (fun z => absurd z (by decide))
    · rw [if_neg f4, if_neg f4, if_neg f6]
      exact b65 1 6 (by decide) (Or.inr rfl) (fun z => absurd z (by decide)) (fun _ => ⟨f4, f6⟩)
end CH
