/-! PURE: loads and stores, and the class's. -/
def d_wn (c w : Int64) : Int64 := (w &&& -4294967296) ||| ((d_field c).toInt64 &&& 4294967295)
def s_wide (c w : Int64) (σ : sT) (ids : Int32) : sR := .ok (up σ (d_ti c) (if d_from c = 0 then s_num (fn_ex (d_wn c w)) else (6, 0, d_field c, 0, 0, 0, fn_ex 0)), ids)
def s_inp (p : sC) (pl : Int32) (n : Int64) : Prop := ¬ pl < 0 ∧ ¬ (cR p).toInt64 < pl.toInt64 + n
def s_inv (vb : Int32 → Int32) (p : sC) (pl : Int32) (n : Int64) : Prop := ¬ pl.toInt64 + (cX p).2.2.1 < 0 ∧ ¬ (vb (cM p)).toInt64 < pl.toInt64 + (cX p).2.2.2.1 + n
/-- may the instruction use the place -/
def s_isp (c : Int64) (vb : Int32 → Int32) (p : sC) (pl : Int32) : Prop :=
  (cK p = 2 ∧ d_fam c = 2 ∧ ¬ pl < 0 ∧ ¬ 64 < pl + d_by c ∧ jirem pl (d_by c) = 0 ∧ (16 ≤ pl ∨ d_by c = 8)) ∨ (cK p = 3 ∧ ¬ pl < -512 ∧ ¬ 0 < pl + d_by c ∧ jirem pl (d_by c) = 0) ∨ (cK p = 4 ∧ ¬ d_fam c = 5 ∧ s_inp p pl (d_by c).toInt64) ∨ (¬ cK p = 2 ∧ ¬ cK p = 3 ∧ ¬ cK p = 4 ∧ s_inv vb p pl (d_by c).toInt64)
/-- the slot of the stack that holds a place -/
def sl (p : Int32) : Nat := 11 + (jishr ((-1) - p) 3).toNatClampNeg
def d_bm (c : Int64) (pl : Int32) : Int32 := jishl ((jishl 1 (d_by c)) - 1) (pl &&& 7)
abbrev c_able (a : sC) (w : Int32) : Prop := cK a = 1 ∨ (cK a = 0 ∧ cW a &&& w = w)
def s_stb (a : sC) (w : Int32) : sC := s_bare (if cK a = 0 then cW a ||| w else if cK a = 1 then 255 ||| w else w)
def s_store (c : Int64) (pl : Int32) (x : sC) (σ : sT) : sT := up σ (sl pl) (if d_by c = 8 then x else s_stb (σ (sl pl)) (d_bm c pl))
def s_rd (c : Int64) (k pl : Int32) (σ : sT) (ids : Int32) : sR := .ok (up σ (d_ti c) (if k = 2 ∧ ¬ 16 ≤ pl then (if pl = 0 then (4, 0, 0, 0, 0, 0, fn_ex 0) else (5, 0, 0, 0, 0, 0, fn_ex 0)) else s_num (fn_rd (d_by c))), ids)
def s_load (c : Int64) (k pl : Int32) (σ : sT) (ids : Int32) : sR :=
  if k = 3 then (if ¬ cK (σ (sl pl)) = 0 ∧ d_by c = 8 then .ok (up σ (d_ti c) (σ (sl pl)), ids) else if c_able (σ (sl pl)) (d_bm c pl) then s_rd c k pl σ ids else .error 15)
  else s_rd c k pl σ ids
def s_addTo (c : Int64) (pl : Int32) (σ : sT) (ids : Int32) : sR :=
  if ¬ cK (σ (sl pl)) = 0 ∧ ¬ cK (σ (sl pl)) = 1 ∧ d_by c = 8 then .error 16 else if c_able (σ (sl pl)) (d_bm c pl) then .ok (s_store c pl (s_num fn_any) σ, ids) else .error 15
def s_put (c : Int64) (k pl : Int32) (x : sC) (σ : sT) (ids : Int32) : sR :=
  if ¬ cK x = 1 ∧ ¬ (d_fam c = 3 ∧ k = 3 ∧ d_by c = 8) then .error 16 else if k = 3 then (if d_fam c = 5 then s_addTo c pl σ ids else .ok (s_store c pl x σ, ids)) else .ok (σ, ids)
noncomputable def s_mem (c : Int64) (vb : Int32 → Int32) (σ : sT) (ids : Int32) : sR :=
  if b1 (c_ptr (σ (if d_fam c = 2 then d_fi c else d_ti c))) = 0 then .error 13
  else if b1 (s_isp c vb (σ (if d_fam c = 2 then d_fi c else d_ti c)) (cPl (σ (if d_fam c = 2 then d_fi c else d_ti c)) + d_off c)) = 0 then .error 14
  else if d_fam c = 2 then s_load c (cK (σ (d_fi c))) (cPl (σ (d_fi c)) + d_off c) σ ids
  else s_put c (cK (σ (d_ti c))) (cPl (σ (d_ti c)) + d_off c) (s_by c σ) σ ids
/-- places are not far, maps are there -/
def s_wf (nm : Nat) (σ : sT) : Prop := ∀ i, i < 75 → (-65535 ≤ (cPl (σ i)).toInt ∧ (cPl (σ i)).toInt ≤ 65535) ∧ ((cK (σ i) = 6 ∨ cK (σ i) = 7 ∨ cK (σ i) = 8) → ∃ m, m < nm ∧ cM (σ i) = nI m)
def sto (M : me_M) (nm : Nat) (kb vb : Int32 → Int32) : Prop := nm ≤ 4 ∧ mZ M 19 0 = 4 ∧ ∀ m, m < nm → mR M 19 0 m = some m ∧ mI M 12 m 1 = kb (nI m) ∧ mI M 12 m 2 = vb (nI m)
theorem off_b (c : Int64) : -32768 ≤ (d_off c).toInt ∧ (d_off c).toInt ≤ 32767 := by
  unfold d_off
  rw [Int16.toInt_toInt32]
  have h1 := Int16.le_toInt (jlushr c 16).toInt32.toInt16
  have h2 := Int16.toInt_lt (jlushr c 16).toInt32.toInt16
  omega
theorem add_b {a b : Int32} (h1 : -1000000 ≤ a.toInt) (h2 : a.toInt ≤ 1000000) (h3 : -1000000 ≤ b.toInt) (h4 : b.toInt ≤ 1000000) : (a + b).toInt = a.toInt + b.toInt := by
  rw [Int32.toInt_add, Int.bmod_def]
  show (if (a.toInt + b.toInt) % 4294967296 < (4294967296 + 1) / 2 then _ else _) = _
  omega
theorem by_c (c : Int64) : d_by c = 1 ∨ d_by c = 2 ∨ d_by c = 4 ∨ d_by c = 8 := by
  obtain ⟨n, hn, e⟩ := and_255 c.toInt32
  have e2 : d_op c = nI n := e
  have := t_by n hn
  unfold d_by
  rw [e2]
  simpa using this
theorem sl_of {p : Int32} (h1 : -512 ≤ p.toInt) (h2 : p.toInt ≤ -1) : ∃ q, q < 64 ∧ sl p = 11 + q ∧ 11 + (jimax 0 (jimin (jishr ((-1) - p) 3) 63)) = nI (11 + q) ∧ (q : Int) = (-1 - p.toInt) / 8 := by
  have k : ∀ r, r < 512 → jishr ((-1) - ((-1) - nI r)) 3 = nI (r / 8) ∧ jimax 0 (jimin (jishr ((-1) - ((-1) - nI r)) 3) 63) = nI (r / 8) ∧ 11 + nI (r / 8) = nI (11 + r / 8) := by decide +kernel
  obtain ⟨r, hr⟩ : ∃ r : Nat, (r : Int) = -1 - p.toInt := ⟨(-1 - p.toInt).toNat, by omega⟩
  have e : p = (-1) - nI r := by
    apply Int32.toInt_inj.mp
    rw [Int32.toInt_sub, nI_int (by omega), show (-1 : Int32).toInt = -1 from rfl, hr, Int.bmod_def]
    show _ = if (-1 - (-1 - p.toInt)) % 4294967296 < (4294967296 + 1) / 2 then _ else _
    omega
  obtain ⟨k1, k2, k3⟩ := k r (by omega)
  refine ⟨r / 8, by omega, ?_, ?_, by omega⟩
  · unfold sl
    rw [e, k1, nI_tn (by omega)]
  · rw [e, k2, k3]
section CC
variable {M M1 M2 : me_M} {s : Nat} {c : Int64} {nm : Nat} {kb vb : Int32 → Int32}
theorem st_slot (h : stp M s c) {u : Nat} (hu : us M s u) {p : Int32} (h1 : -512 ≤ p.toInt) (h2 : p.toInt ≤ -1) : ∃ M1 v, f_State_slotAt M s p = some (M1, 75 * s + sl p + 1) ∧ sl p < 75 ∧ 11 ≤ sl p ∧ us M1 s v ∧ sl p < v ∧ M1 = wI M 9 s 1 (nI v) := by
  obtain ⟨q, hq, e1, e2, _⟩ := sl_of h1 h2
  unfold f_State_slotAt
  rw [e2, st_eq, st_eq, (h.2.1.1 s h.2.2.2.1).1, bd_some, (h.2.1.1 s h.2.2.2.1).2, gd_pos (ix_ok (by omega) (by decide)), nI_tn (by omega), h.2.1.2.1 s (11 + q) h.2.2.2.1 (by omega), bd_some, hu.2.2.1, nI_s]
  have eb : jimax (nI u) (nI (11 + q + 1)) = nI (max u (11 + q + 1)) := by
    unfold jimax
    have := hu.2.1
    by_cases g : u < 11 + q + 1
    · rw [if_pos ((nI_lti (by omega) (by omega)).mpr g), Nat.max_eq_right (by omega)]
    · rw [if_neg (fun z => g ((nI_lti (by omega) (by omega)).mp z)), Nat.max_eq_left (by omega)]
  rw [eb, e1]
  refine ⟨_, max u (11 + q + 1), rfl, by omega, by omega, ⟨?_, ?_, ?_, ?_⟩, by omega, rfl⟩
  · have := hu.1; omega
  · have := hu.2.1; omega
  · exact pI_same
  · intro i h3 h4
    exact hu.2.2.2 i (by omega) h4
theorem st_wide (h : stp M s c) {u k n : Nat} (hu : us M s u) (ha : mI M 9 s 2 = nI k) (hn : mI M 2 0 3 = nI n) (hk : k + 1 < n) (hn2 : n ≤ 2000) (hR : mR M 2 0 0 = some 0) (hZ : mZ M 16 0 = 2000) : ∃ M1 r, f_Steps_wide M 0 = some (M1, r) ∧ tk s M M1 ∧ rs s M1 r (s_wide c (mL M 16 0 (k + 1)) (sv M s) (mI M 7 0 7)) := by
  obtain ⟨t, ht, e1, e2⟩ := d_ti_n h.2.2.2.2.2.2.2.2.2.2.2.1
  obtain ⟨l1, l2, l3, l4, l5, l6, l7, l8, l9, l10, l11⟩ := h.1
  have fin : ∀ (M1 : me_M) (z : sC), fr (cP (75 * s + t + 1)) M M1 → cv M1 (75 * s + t + 1) = z → tk s M M1 ∧ rs s M1 0 (.ok (up (sv M s) t z, mI M 7 0 7)) := by
    intro M1 z g hz
    obtain ⟨q1, q2⟩ := fin_y ht hu (fr_mono g (fun k j z => Or.inl z))
    rw [hz] at q2
    exact ⟨q1, rfl, q2, by rw [g.2.2.2.1 7 0 cP7]⟩
  unfold f_Steps_wide s_wide
  rw [h.2.2.2.2.1, bd_some, l3, h.2.2.2.2.2.2.2.2.2.1, bd_some, l2, e1, (h.2.1.1 s h.2.2.2.1).2, e2]
  by_cases g : d_from c = 0
  · rw [if_pos g, if_pos g, gd_pos (ix_ok (by omega) (by decide)), nI_tn (by omega), h.2.1.2.1 s t h.2.2.2.1 (by omega), bd_some, h.2.2.2.2.2.2.2.2.2.2.1, bd_some, ha]
    have ew : f_Code_wideNumber M 0 (nI k) = some (M, d_wn c (mL M 16 0 (k + 1))) := by
      unfold f_Code_wideNumber d_wn
      rw [hn, nI_s, if_neg (fun z => by have := (nI_lei (by omega) (by omega)).mp z; omega), hR, bd_some, hZ, gd_pos (ix_ok (by omega) (by decide)), nI_tn (by omega), st_eq, l5]
    rw [ew, b2_some]
    obtain ⟨M1, a1, a2, a3⟩ := ce_exact (M := M) (c := 75 * s + t + 1) (v := d_wn c (mL M 16 0 (k + 1))) (st_cell h (by omega))
    rw [a1, bd_some]
    exact ⟨M1, 0, rfl, fin M1 _ a3 a2⟩
  · rw [if_neg g, if_neg g, bd_some, (h.2.1.1 s h.2.2.2.1).2, gd_pos (ix_ok (by omega) (by decide)), nI_tn (by omega), h.2.1.2.1 s t h.2.2.2.1 (by omega), bd_some]
    obtain ⟨M1, a1, a2, a3⟩ := ce_become (M := M) (c := 75 * s + t + 1) (k := 6) (p := 0) (st_cell h (by omega))
    have e6 : mI M1 2 0 6 = nI t := by rw [a3.2.2.2.1 2 0 (by rintro (z | z) <;> exact absurd z.1 (by decide)), l2, e1]
    have e9 : mI M1 2 0 9 = d_field c := by rw [a3.2.2.2.1 2 0 (by rintro (z | z) <;> exact absurd z.1 (by decide)), l5]
    rw [a1, bd_some, e6, gd_pos (ix_ok (by omega) (by decide)), nI_tn (by omega), h.2.1.2.1 s t h.2.2.2.1 (by omega), bd_some, st_eq, e9]
    refine ⟨_, 0, rfl, fin _ _ (fr_trans a3 (fr_I cP0)) ?_⟩
    have kk : mI M1 10 (75 * s + t + 1) 0 = 6 := congrArg (fun z : sC => z.1) a2
    unfold cv cn
    simp [pI_I, kk]
theorem st_isp (h : stp M s c) (hs : sto M nm kb vb) {y : Nat} (hy : mR M 10 y 6 = some (nu y)) (hm : cK (cv M y) = 7 → ∃ m, m < nm ∧ cM (cv M y) = nI m) (hp : c_ptr (cv M y)) {pl : Int32} : f_Steps_isPlace M 0 y pl = some (M, b1 (s_isp c vb (cv M y) pl)) := by
  obtain ⟨l1, l2, l3, l4, l5, l6, l7, l8, l9, l10, l11⟩ := h.1
  have b0 : ¬ d_by c = 0 := by rcases by_c c with r | r | r | r <;> rw [r] <;> decide
  have ek : mI M 10 y 0 = cK (cv M y) := rfl
  have inv : cK (cv M y) = 7 → ∀ n : Int64, f_Steps_isInValue M 0 y pl n = some (M, b1 (s_inv vb (cv M y) pl n)) := by
    intro k7 n
    obtain ⟨m, hm1, hm2⟩ := hm k7
    have em : mI M 10 y 2 = nI m := by
      rw [← hm2]
      have k7' : mI M 10 y 0 = 7 := k7
      unfold cv cn
      exact (if_pos (Or.inr (Or.inl k7'))).symm
    have eX : cX (cv M y) = pg M (nu y) := cv_n (Or.inr (Or.inr k7))
    unfold f_Steps_isInValue s_inv
    have := hs.1
    rw [h.2.2.2.2.2.1, bd_some, em, hs.2.1, gd_pos (ix_ok (by omega) (by decide)), nI_tn (by omega), (hs.2.2 m hm1).1, bd_some, st_eq, hy, bd_some, (hs.2.2 m hm1).2.2, eX, hm2]
    show (if pl.toInt64 + (pg M (nu y)).2.2.1 < 0 then _ else if (vb (nI m)).toInt64 < pl.toInt64 + (pg M (nu y)).2.2.2.1 + n then _ else _) = _
    by_cases g1 : pl.toInt64 + (pg M (nu y)).2.2.1 < 0
    · rw [if_pos g1, b1_f (fun z => z.1 g1)]
    · rw [if_neg g1]
      by_cases g2 : (vb (nI m)).toInt64 < pl.toInt64 + (pg M (nu y)).2.2.2.1 + n
      · rw [if_pos g2, b1_f (fun z => z.2 g2)]
      · rw [if_neg g2, b1_t ⟨g1, g2⟩]
  have inp : cK (cv M y) = 4 → ∀ n : Int64, f_Steps_isInPacket M 0 y pl n = some (M, b1 (s_inp (cv M y) pl n)) := by
    intro k4 n
    have er : mI M 10 y 4 = cR (cv M y) := by
      have k4' : mI M 10 y 0 = 4 := k4
      unfold cv cn
      exact (if_pos k4').symm
    unfold f_Steps_isInPacket s_inp
    rw [er]
    by_cases g1 : pl < 0
    · rw [if_pos g1, b1_f (fun z => z.1 g1)]
    · rw [if_neg g1]
      by_cases g2 : (cR (cv M y)).toInt64 < pl.toInt64 + n
      · rw [if_pos g2, b1_f (fun z => z.2 g2)]
      · rw [if_neg g2, b1_t ⟨g1, g2⟩]
  unfold f_Steps_isPlace f_Steps_isPlace_b19 s_isp
  rw [h.2.2.2.2.1, bd_some, st_eq, l7, gd_pos b0, ek]
  simp only [bd_some, l6]
  have two : ¬ (1 : Int32) = 0 := by decide
  generalize hJ : jirem pl (d_by c) = J
  by_cases k2 : cK (cv M y) = 2
  · have n3 : ¬ cK (cv M y) = 3 := by rw [k2]; decide
    have n4 : ¬ cK (cv M y) = 4 := by rw [k2]; decide
    simp only [if_pos k2, if_neg two, if_true]
    by_cases f2 : d_fam c = 2
    · simp only [if_pos f2]
      by_cases g1 : pl < 0
      · simp only [if_pos g1, ite_self]
        refine congrArg (fun z => some (M, z)) (b1_f ?_).symm
        rintro (z | z | z | z)
        · exact z.2.2.1 g1
        · exact n3 z.1
        · exact n4 z.1
        · exact z.1 k2
      · simp only [if_neg g1]
        by_cases g2 : 64 < pl + d_by c
        · simp only [if_pos g2, ite_self]
          refine congrArg (fun z => some (M, z)) (b1_f ?_).symm
          rintro (z | z | z | z)
          · exact z.2.2.2.1 g2
          · exact n3 z.1
          · exact n4 z.1
          · exact z.1 k2
        · simp only [if_neg g2]
          by_cases g3 : J = 0
          · rw [if_pos g3]
            by_cases g4 : 16 ≤ pl
            · rw [if_pos g4, b1_t (Or.inl ⟨k2, f2, g1, g2, g3, Or.inl g4⟩)]
            · rw [if_neg g4]
              by_cases g5 : d_by c = 8
              · rw [if_pos g5, b1_t (Or.inl ⟨k2, f2, g1, g2, g3, Or.inr g5⟩)]
              · rw [if_neg g5]
                refine congrArg (fun z => some (M, z)) (b1_f ?_).symm
                rintro (z | z | z | z)
                · exact z.2.2.2.2.2.elim g4 g5
                · exact n3 z.1
                · exact n4 z.1
                · exact z.1 k2
          · rw [if_neg g3]
            refine congrArg (fun z => some (M, z)) (b1_f ?_).symm
            rintro (z | z | z | z)
            · exact g3 z.2.2.2.2.1
            · exact n3 z.1
            · exact n4 z.1
            · exact z.1 k2
    · simp only [if_neg f2, ite_self]
      refine congrArg (fun z => some (M, z)) (b1_f ?_).symm
      rintro (z | z | z | z)
      · exact f2 z.2.1
      · exact n3 z.1
      · exact n4 z.1
      · exact z.1 k2
  simp only [if_neg k2]
  by_cases k3 : cK (cv M y) = 3
  · have n4 : ¬ cK (cv M y) = 4 := by rw [k3]; decide
    simp only [if_pos k3, if_neg two, if_true]
    by_cases g1 : pl < -512
    · simp only [if_pos g1, ite_self]
      refine congrArg (fun z => some (M, z)) (b1_f ?_).symm
      rintro (z | z | z | z)
      · exact k2 z.1
      · exact z.2.1 g1
      · exact n4 z.1
      · exact z.2.1 k3
    · simp only [if_neg g1]
      by_cases g2 : 0 < pl + d_by c
      · simp only [if_pos g2, ite_self]
        refine congrArg (fun z => some (M, z)) (b1_f ?_).symm
        rintro (z | z | z | z)
        · exact k2 z.1
        · exact z.2.2.1 g2
        · exact n4 z.1
        · exact z.2.1 k3
      · simp only [if_neg g2]
        by_cases g3 : J = 0
        · rw [if_pos g3, b1_t (Or.inr (Or.inl ⟨k3, g1, g2, g3⟩))]
        · rw [if_neg g3]
          refine congrArg (fun z => some (M, z)) (b1_f ?_).symm
          rintro (z | z | z | z)
          · exact k2 z.1
          · exact g3 z.2.2.2
          · exact n4 z.1
          · exact z.2.1 k3
  simp only [if_neg k3]
  by_cases k4 : cK (cv M y) = 4
  · simp only [if_pos k4]
    by_cases f5 : d_fam c = 5
    · simp only [if_pos f5, ite_self]
      refine congrArg (fun z => some (M, z)) (b1_f ?_).symm
      rintro (z | z | z | z)
      · exact k2 z.1
      · exact k3 z.1
      · exact z.2.1 f5
      · exact z.2.2.1 k4
    · simp only [if_neg f5, ite_self]
      rw [inp k4, b2_some]
      by_cases g : s_inp (cv M y) pl (d_by c).toInt64
      · rw [b1_t g, if_neg two, b1_t (Or.inr (Or.inr (Or.inl ⟨k4, f5, g⟩)))]
      · rw [b1_f g, if_pos rfl]
        refine congrArg (fun z => some (M, z)) (b1_f ?_).symm
        rintro (z | z | z | z)
        · exact k2 z.1
        · exact k3 z.1
        · exact g z.2.2
        · exact z.2.2.1 k4
  have k7 : cK (cv M y) = 7 := by
    rcases hp with r | r | r | r
    · exact absurd r k2
    · exact absurd r k3
    · exact absurd r k4
    · exact r
  simp only [if_neg k4, ite_self]
  rw [inv k7, b2_some]
  refine congrArg (fun z => some (M, z)) (b1_c ⟨fun z => Or.inr (Or.inr (Or.inr ⟨k2, k3, k4, z⟩)), ?_⟩)
  rintro (z | z | z | z)
  · exact absurd z.1 k2
  · exact absurd z.1 k3
  · exact absurd z.1 k4
  · exact z.2.2.2
end CC
