/-! PURE: the class's loads and stores. -/
section CD
variable {M M1 M2 : me_M} {s : Nat} {c : Int64} {nm : Nat} {kb vb : Int32 → Int32}
theorem tk_trans (h : tk s M M1) (g : tk s M1 M2) : tk s M M2 := ⟨fr_trans h.1 g.1, g.2.1, g.2.2.1.trans h.2.2.1, g.2.2.2.1.trans h.2.2.2.1, g.2.2.2.2.trans h.2.2.2.2⟩
theorem tk_used {v : Int32} (h : ∃ u, us (wI M 9 s 1 v) s u) : tk s M (wI M 9 s 1 v) := ⟨fr_I (Or.inl (Or.inl ⟨rfl, rfl⟩)), h, pI_place (by decide), pI_place (by decide), pI_place (by decide)⟩
theorem tk_refl {u : Nat} (hu : us M s u) : tk s M M := ⟨fr_refl, ⟨u, hu⟩, rfl, rfl, rfl⟩
theorem fin_i {t u : Nat} (ht : t < u) (hu : us M s u) (g : fr (yP (75 * s + t + 1)) M M1) : tk s M M1 ∧ ∀ i, i < 75 → sv M1 s i = up (sv M s) t (cv M1 (75 * s + t + 1)) i := by
  have n9 : ¬ yP (75 * s + t + 1) 9 s := by
    rintro (z | z | z | z)
    · exact cP9 z
    · exact absurd z.1 (by decide)
    · exact absurd z.1 (by decide)
    · exact absurd z.1 (by decide)
  have v : ∀ i, i < 75 → sv M1 s i = up (sv M s) t (cv M1 (75 * s + t + 1)) i := by
    intro i hi
    unfold up
    by_cases e : i = t
    · rw [if_pos e, e]; rfl
    · rw [if_neg e]
      refine cv_fr g ?_ ?_
      · rintro (z | z | z | z)
        · rcases z with z | z
          · omega
          · exact absurd z.1 (by decide)
        · exact absurd z.1 (by decide)
        · omega
        · exact absurd z.1 (by decide)
      · rintro (z | z | z | z)
        · rcases z with z | z
          · exact absurd z.1 (by decide)
          · have := nu_inj z.2; omega
        · exact absurd z.1 (by decide)
        · exact absurd z.1 (by decide)
        · rw [nu_g (by omega)] at z; omega
  have hu2 := hu.2.1
  refine ⟨⟨fr_mono g ?_, ⟨u, hu.1, hu.2.1, ?_, ?_⟩, n9_tk g n9⟩, v⟩
  · intro k j z
    rcases z with z | z | z | z
    · exact tP_c (by omega) z
    · exact Or.inr (Or.inl z)
    · exact Or.inr (Or.inr (Or.inl z))
    · exact Or.inr (Or.inr (Or.inr z))
  · rw [g.2.2.2.1 9 s n9]; exact hu.2.2.1
  · intro i h1 h2
    rw [v i h2]
    unfold up
    rw [if_neg (by omega)]
    exact hu.2.2.2 i h1 h2
/-- the end of a load: a number read, or the packet's pointers -/
theorem st_rd (h : stp M s c) {u : Nat} (hu : us M s u) {k pl : Int32} : ∃ M1 r, f_Steps_load_b75 0 k pl M (75 * s + d_ti c + 1) = some (M1, r) ∧ tk s M M1 ∧ rs s M1 r (s_rd c k pl (sv M s) (mI M 7 0 7)) := by
  have ht : d_ti c < 11 := h.2.2.2.2.2.2.2.2.2.2.2.1
  have l7 : mI M 2 0 11 = d_by c := h.1.2.2.2.2.2.2.1
  have hc : mR M 10 (75 * s + d_ti c + 1) 6 = some (nu (75 * s + d_ti c + 1)) := st_cell h (by omega)
  have fin : ∀ (M1 : me_M) (z : sC), fr (cP (75 * s + d_ti c + 1)) M M1 → cv M1 (75 * s + d_ti c + 1) = z → tk s M M1 ∧ rs s M1 0 (.ok (up (sv M s) (d_ti c) z, mI M 7 0 7)) := by
    intro M1 z g hz
    obtain ⟨q1, q2⟩ := fin_y ht hu (fr_mono g (fun k j z => Or.inl z))
    rw [hz] at q2
    exact ⟨q1, rfl, q2, by rw [g.2.2.2.1 7 0 cP7]⟩
  have rd : ∃ M1 r, bd (f_Cell_becomeRead M (75 * s + d_ti c + 1) (d_by c)) (fun M4 => some (M4, (0 : Int32))) = some (M1, r) ∧ tk s M M1 ∧ rs s M1 r (.ok (up (sv M s) (d_ti c) (s_num (fn_rd (d_by c))), mI M 7 0 7)) := by
    obtain ⟨M1, a1, a2, a3⟩ := ce_read (M := M) hc (by_c c)
    rw [a1, bd_some]
    exact ⟨M1, 0, rfl, fin M1 _ a3 a2⟩
  have be : ∀ kk : Int32, (kk = 4 ∨ kk = 5) → ∃ M1 r, bd (f_Cell_become M (75 * s + d_ti c + 1) kk 0) (fun M4 => some (M4, (0 : Int32))) = some (M1, r) ∧ tk s M M1 ∧ rs s M1 r (.ok (up (sv M s) (d_ti c) (kk, 0, 0, 0, 0, 0, fn_ex 0), mI M 7 0 7)) := by
    intro kk hk
    obtain ⟨M1, a1, a2, a3⟩ := ce_become (M := M) (k := kk) (p := 0) hc
    rw [a1, bd_some]
    refine ⟨M1, 0, rfl, fin M1 _ a3 (a2.trans ?_)⟩
    rcases hk with r | r <;> subst r <;> rfl
  unfold f_Steps_load_b75 s_rd
  by_cases g : k = 2
  · rw [if_pos g]
    by_cases g1 : 16 ≤ pl
    · rw [if_pos g1, if_neg (show ¬ (k = 2 ∧ ¬ 16 ≤ pl) from fun z => z.2 g1), h.2.2.2.2.1, bd_some, l7]; exact rd
    · rw [if_neg g1, if_pos (show k = 2 ∧ ¬ 16 ≤ pl from ⟨g, g1⟩)]
      by_cases g2 : pl = 0
      · rw [if_pos g2, if_pos g2]; exact be 4 (Or.inl rfl)
      · rw [if_neg g2, if_neg g2]; exact be 5 (Or.inr rfl)
  · rw [if_neg g, if_neg (fun z => g z.1), h.2.2.2.2.1, bd_some, l7]; exact rd
theorem st_load (h : stp M s c) {u : Nat} (hu : us M s u) {k pl : Int32} (hp : k = 3 → -512 ≤ pl.toInt ∧ pl.toInt ≤ -1) : ∃ M1 r, f_Steps_load M 0 k pl = some (M1, r) ∧ tk s M M1 ∧ rs s M1 r (s_load c k pl (sv M s) (mI M 7 0 7)) := by
  obtain ⟨t, ht, e1, e2⟩ := d_ti_n h.2.2.2.2.2.2.2.2.2.2.2.1
  obtain ⟨l1, l2, l3, l4, l5, l6, l7, l8, l9, l10, l11⟩ := h.1
  unfold f_Steps_load s_load
  rw [h.2.2.2.2.2.2.2.2.2.1, bd_some, h.2.2.2.2.1, bd_some, l2, e1, (h.2.1.1 s h.2.2.2.1).2, gd_pos (ix_ok (by omega) (by decide)), nI_tn (by omega), h.2.1.2.1 s t h.2.2.2.1 (by omega), bd_some, ← e2]
  by_cases g : k = 3
  · rw [if_pos g, if_pos g, h.2.2.2.2.2.2.2.2.2.2.1, bd_some]
    obtain ⟨A, v, a1, a2, a3, a4, a5, a6⟩ := st_slot h hu (hp g).1 (hp g).2
    have tA : tk s M A := by rw [a6]; exact tk_used ⟨v, by rw [← a6]; exact a4⟩
    have hA : stp A s c := stp_fr h tA.1
    have svA : ∀ i, sv A s i = sv M s i := by intro i; rw [a6]; rfl
    have svA2 : sv A s = sv M s := funext svA
    have m7 : mI A 7 0 7 = mI M 7 0 7 := by rw [a6]; rfl
    have l7A : mI A 2 0 11 = d_by c := hA.1.2.2.2.2.2.2.1
    rw [a1, b2_some, l7A]
    have ek : mI A 10 (75 * s + sl pl + 1) 0 = cK (sv M s (sl pl)) := by rw [← svA]; rfl
    rw [ek]
    have b56 : ∃ M1 r, f_Steps_load_b56 0 k pl A (75 * s + d_ti c + 1) (75 * s + sl pl + 1) = some (M1, r) ∧ tk s M M1 ∧ rs s M1 r (if c_able (sv M s (sl pl)) (d_bm c pl) then s_rd c k pl (sv M s) (mI M 7 0 7) else .error 15) := by
      unfold f_Steps_load_b56
      rw [hA.2.2.2.2.1, bd_some]
      have eb : f_Code_bytesAt A 0 pl = some (A, d_bm c pl) := by
        unfold f_Code_bytesAt d_bm
        rw [l7A]
      rw [eb, b2_some, ce_able, b2_some]
      have ec : cv A (75 * s + sl pl + 1) = sv M s (sl pl) := svA _
      rw [ec]
      by_cases g2 : c_able (sv M s (sl pl)) (d_bm c pl)
      · rw [if_pos g2, if_neg (by decide), if_pos g2]
        obtain ⟨M1, r, b1', b2', b3'⟩ := st_rd (k := k) (pl := pl) hA a4
        rw [svA2, m7] at b3'
        exact ⟨M1, r, b1', tk_trans tA b2', b3'⟩
      · rw [if_neg g2, if_pos rfl, if_neg g2]
        exact ⟨A, 15, rfl, tA, rfl⟩
    by_cases g1 : cK (sv M s (sl pl)) = 0
    · rw [if_pos g1, if_neg (fun z => z.1 g1)]; exact b56
    · rw [if_neg g1]
      by_cases g2 : d_by c = 8
      · rw [if_pos g2, if_pos ⟨g1, g2⟩]
        obtain ⟨P, b1', b2', b3'⟩ := ce_copy (M := A) (c := 75 * s + d_ti c + 1) (d := 75 * s + sl pl + 1) (st_cell hA (by omega)) (st_cell hA a2)
        rw [b1', bd_some]
        obtain ⟨q1, q2⟩ := fin_y (t := d_ti c) (by omega) a4 (fr_mono b3' (fun k j z => Or.inl z))
        have ec : cv A (75 * s + sl pl + 1) = sv M s (sl pl) := svA _
        rw [b2', ec, svA2] at q2
        exact ⟨P, 0, rfl, tk_trans tA q1, rfl, q2, by rw [b3'.2.2.2.1 7 0 cP7]; exact m7⟩
      · rw [if_neg g2, if_neg (fun z => g2 z.2)]; exact b56
  · rw [if_neg g, if_neg g]
    exact st_rd h hu
/-- a store into the stack, of a cell x that is no slot being changed or is another cell -/
theorem st_store (h : stp M s c) {u : Nat} (hu : us M s u) {pl : Int32} (h1 : -512 ≤ pl.toInt) (h2 : pl.toInt ≤ -1) {x : Nat} (hx : mR M 10 x 6 = some (nu x)) : ∃ M1, f_Steps_store M 0 pl x = some M1 ∧ tk s M M1 ∧ (∀ i, i < 75 → sv M1 s i = s_store c pl (cv M x) (sv M s) i) ∧ mI M1 7 0 7 = mI M 7 0 7 := by
  unfold f_Steps_store s_store
  rw [h.2.2.2.2.2.2.2.2.2.2.1, bd_some]
  obtain ⟨A, v, a1, a2, a3, a4, a5, a6⟩ := st_slot h hu h1 h2
  have tA : tk s M A := by rw [a6]; exact tk_used ⟨v, by rw [← a6]; exact a4⟩
  have hA : stp A s c := stp_fr h tA.1
  have svA2 : sv A s = sv M s := by funext i; rw [a6]; rfl
  have cvA : ∀ i, cv A i = cv M i := by intro i; rw [a6]; rfl
  have m7 : mI A 7 0 7 = mI M 7 0 7 := by rw [a6]; rfl
  have l7A : mI A 2 0 11 = d_by c := hA.1.2.2.2.2.2.2.1
  rw [a1, b2_some, h.2.2.2.2.1, bd_some, l7A]
  by_cases g : d_by c = 8
  · rw [if_pos g, if_pos g]
    obtain ⟨P, b1', b2', b3'⟩ := ce_copy (M := A) (c := 75 * s + sl pl + 1) (d := x) (st_cell hA a2) (by rw [tA.1.1]; exact hx)
    rw [b1', bd_some]
    obtain ⟨q1, q2⟩ := fin_i a5 a4 (fr_mono b3' (fun k j z => Or.inl z))
    rw [b2', cvA, svA2] at q2
    exact ⟨P, rfl, tk_trans tA q1, q2, by rw [b3'.2.2.2.1 7 0 cP7]; exact m7⟩
  · rw [if_neg g, if_neg g]
    have eb : f_Code_bytesAt A 0 pl = some (A, d_bm c pl) := by
      unfold f_Code_bytesAt d_bm
      rw [l7A]
    rw [eb, b2_some]
    obtain ⟨P, b1', b2', b3'⟩ := ce_store (M := A) (c := 75 * s + sl pl + 1) (w := d_bm c pl)
    rw [b1', bd_some]
    obtain ⟨q1, q2⟩ := fin_i a5 a4 (fr_mono b3' (fun k j z => Or.inl z))
    rw [b2', cvA, svA2] at q2
    exact ⟨P, rfl, tk_trans tA q1, q2, by rw [b3'.2.2.2.1 7 0 cP7]; exact m7⟩
theorem us_c0 {u : Nat} (hu : us M s u) (g : fr (cP 0) M M1) : us M1 s u ∧ tk s M M1 ∧ ∀ i, i < 75 → sv M1 s i = sv M s i := by
  obtain ⟨q1, q2⟩ := us_fr hu g cP9 (by
    intro k j z y
    obtain ⟨i, hi, w⟩ := y
    rcases z with z | z <;> rcases w with w | w
    · omega
    · rw [z.1] at w; exact absurd w.1 (by decide)
    · rw [z.1] at w; exact absurd w.1 (by decide)
    · have := nu_inj (z.2.symm.trans w.2); omega)
  exact ⟨q1, ⟨fr_mono g (fun k j z => tP_0 z), ⟨u, q1⟩, n9_tk g cP9⟩, q2⟩
theorem st_addTo (h : stp M s c) {u : Nat} (hu : us M s u) {pl : Int32} (h1 : -512 ≤ pl.toInt) (h2 : pl.toInt ≤ -1) : ∃ M1 r, f_Steps_addTo M 0 pl = some (M1, r) ∧ tk s M M1 ∧ rs s M1 r (s_addTo c pl (sv M s) (mI M 7 0 7)) := by
  unfold f_Steps_addTo s_addTo
  rw [h.2.2.2.2.2.2.2.2.2.2.1, bd_some]
  obtain ⟨A, v, a1, a2, a3, a4, a5, a6⟩ := st_slot h hu h1 h2
  have tA : tk s M A := by rw [a6]; exact tk_used ⟨v, by rw [← a6]; exact a4⟩
  have hA : stp A s c := stp_fr h tA.1
  have svA2 : sv A s = sv M s := by funext i; rw [a6]; rfl
  have cvA : ∀ i, cv A i = cv M i := by intro i; rw [a6]; rfl
  have m7 : mI A 7 0 7 = mI M 7 0 7 := by rw [a6]; rfl
  have l7A : mI A 2 0 11 = d_by c := hA.1.2.2.2.2.2.2.1
  have ek : mI A 10 (75 * s + sl pl + 1) 0 = cK (sv M s (sl pl)) := by rw [← svA2]; rfl
  rw [a1, b2_some, ek, h.2.2.2.2.1]
  have b39 : ∃ M1 r, f_Steps_addTo_b39 0 pl A (75 * s + sl pl + 1) = some (M1, r) ∧ tk s M M1 ∧ rs s M1 r (if c_able (sv M s (sl pl)) (d_bm c pl) then .ok (s_store c pl (s_num fn_any) (sv M s), mI M 7 0 7) else .error 15) := by
    unfold f_Steps_addTo_b39
    rw [hA.2.2.2.2.1, bd_some]
    have eb : f_Code_bytesAt A 0 pl = some (A, d_bm c pl) := by
      unfold f_Code_bytesAt d_bm
      rw [l7A]
    rw [eb, b2_some, ce_able, b2_some]
    have ec : cv A (75 * s + sl pl + 1) = sv M s (sl pl) := cvA _
    rw [ec]
    by_cases g2 : c_able (sv M s (sl pl)) (d_bm c pl)
    · rw [if_pos g2, if_neg (by decide), if_pos g2, hA.2.2.2.2.2.2.2.1, bd_some]
      obtain ⟨B, b1', b2', b3'⟩ := ce_any (M := A) (c := 0) (st_fcell hA)
      rw [b1', bd_some]
      obtain ⟨q1, q2, q3⟩ := us_c0 a4 b3'
      have hB : stp B s c := stp_fr hA q2.1
      obtain ⟨C, c1, c2, c3, c4⟩ := st_store (x := 0) hB q1 h1 h2 (st_fcell hB)
      rw [c1, bd_some]
      refine ⟨C, 0, rfl, tk_trans (tk_trans tA q2) c2, rfl, ?_, ?_⟩
      · intro i hi
        rw [c3 i hi, b2']
        have hsl : sv B s (sl pl) = sv M s (sl pl) := (q3 _ a2).trans (by rw [svA2])
        show s_store c pl (s_num fn_any) (sv B s) i = s_store c pl (s_num fn_any) (sv M s) i
        unfold s_store up
        rw [hsl]
        by_cases e : i = sl pl
        · rw [if_pos e, if_pos e]
        · rw [if_neg e, if_neg e, q3 i hi, svA2]
      · rw [c4, b3'.2.2.2.1 7 0 cP7]; exact m7
    · rw [if_neg g2, if_pos rfl, if_neg g2]
      exact ⟨A, 15, rfl, tA, rfl⟩
  by_cases g1 : cK (sv M s (sl pl)) = 0
  · rw [if_pos g1, if_neg (fun z => z.1 g1)]; exact b39
  rw [if_neg g1]
  by_cases g2 : cK (sv M s (sl pl)) = 1
  · rw [if_pos g2, if_neg (fun z => z.2.1 g2)]; exact b39
  rw [if_neg g2, bd_some, l7A]
  by_cases g3 : d_by c = 8
  · rw [if_pos g3, if_pos ⟨g1, g2, g3⟩]
    exact ⟨A, 16, rfl, tA, rfl⟩
  · rw [if_neg g3, if_neg (fun z => g3 z.2.2)]; exact b39
theorem s_store_c {pl : Int32} {x : sC} {σ τ : sT} (h : ∀ i, i < 75 → σ i = τ i) (hs : sl pl < 75) : ∀ i, i < 75 → s_store c pl x σ i = s_store c pl x τ i := by
  intro i hi
  unfold s_store up
  rw [h _ hs]
  by_cases e : i = sl pl
  · rw [if_pos e, if_pos e]
  · rw [if_neg e, if_neg e, h i hi]
theorem isp_st {p : sC} {pl : Int32} (hb1 : -100000 ≤ pl.toInt) (hb2 : pl.toInt ≤ 100000) (h : s_isp c vb p pl) (k3 : cK p = 3) : -512 ≤ pl.toInt ∧ pl.toInt ≤ -1 := by
  rcases h with z | z | z | z
  · rw [k3] at z; exact absurd z.1 (by decide)
  · obtain ⟨_, z1, z2, _⟩ := z
    rw [Int32.lt_iff_toInt_lt] at z1 z2
    have e : (pl + d_by c).toInt = pl.toInt + (d_by c).toInt := by
      refine add_b (by omega) (by omega) ?_ ?_ <;> rcases by_c c with r | r | r | r <;> rw [r] <;> decide
    rw [e] at z2
    have eb : 1 ≤ (d_by c).toInt := by rcases by_c c with r | r | r | r <;> rw [r] <;> decide
    have e5 : (-512 : Int32).toInt = -512 := rfl
    have e0 : (0 : Int32).toInt = 0 := rfl
    omega
  · rw [k3] at z; exact absurd z.1 (by decide)
  · exact absurd k3 z.2.1
/-- loads and stores -/
theorem st_mem (h : stp M s c) {u : Nat} (hu : us M s u) (hs : sto M nm kb vb) (hw : s_wf nm (sv M s)) : ∃ M1 r, f_Steps_memory M 0 = some (M1, r) ∧ tk s M M1 ∧ rs s M1 r (s_mem c vb (sv M s) (mI M 7 0 7)) := by
  obtain ⟨t, ht, e1, e2⟩ := d_ti_n h.2.2.2.2.2.2.2.2.2.2.2.1
  obtain ⟨f, hf, e3, e4⟩ := d_fi_n h.2.2.2.2.2.2.2.2.2.2.2.2
  obtain ⟨l1, l2, l3, l4, l5, l6, l7, l8, l9, l10, l11⟩ := h.1
  have sto_of : ∀ N, fr (tP s) M N → sto N nm kb vb := by
    intro N g
    refine ⟨hs.1, by rw [g.2.2.1]; exact hs.2.1, ?_⟩
    intro m hm
    rw [g.1, g.2.2.2.1 12 m (by
      rintro (z | z | z | z)
      · rcases z with z | z
        · exact absurd z.1 (by decide)
        · rcases cS_k z with r | r <;> exact absurd r (by decide)
      · exact absurd z.1 (by decide)
      · exact absurd z.1 (by decide)
      · exact absurd z.1 (by decide))]
    exact hs.2.2 m hm
  -- the pointer at register i
  have b42 : ∀ (i : Nat) (isl : Int32), i < 11 → (¬ isl = 0 ↔ d_fam c = 2) → i = (if d_fam c = 2 then d_fi c else d_ti c) → ∃ M1 r, f_Steps_memory_b42 0 M isl (nI i) s = some (M1, r) ∧ tk s M M1 ∧ rs s M1 r (s_mem c vb (sv M s) (mI M 7 0 7)) := by
    intro i isl hi hl he
    have hci : mR M 10 (75 * s + i + 1) 6 = some (nu (75 * s + i + 1)) := st_cell h (by omega)
    unfold f_Steps_memory_b42 s_mem
    rw [← he, (h.2.1.1 s h.2.2.2.1).2, gd_pos (ix_ok (by omega) (by decide)), nI_tn (by omega), h.2.1.2.1 s i h.2.2.2.1 (by omega), bd_some, ce_ptr, b2_some]
    have ec : cv M (75 * s + i + 1) = sv M s i := rfl
    rw [ec]
    by_cases g : c_ptr (sv M s i)
    · rw [if_pos g, if_neg (by decide), if_neg (show ¬ b1 (c_ptr (sv M s i)) = 0 from fun z => b1_0.mp z g), h.2.2.2.2.1, bd_some, st_eq, l4]
      have epl : mI M 10 (75 * s + i + 1) 1 = cPl (sv M s i) := (cv_ptr (M := M) (y := 75 * s + i + 1) g).symm
      rw [epl]
      have hb := (hw i (by omega)).1
      have ho := off_b c
      have eadd : (cPl (sv M s i) + d_off c).toInt = (cPl (sv M s i)).toInt + (d_off c).toInt := add_b (by omega) (by omega) (by omega) (by omega)
      obtain ⟨pl, hpl⟩ : ∃ pl, pl = cPl (sv M s i) + d_off c := ⟨_, rfl⟩
      rw [← hpl] at eadd ⊢
      rw [st_isp h hs hci (fun k7 => (hw i (by omega)).2 (Or.inr (Or.inl k7))) g, b2_some, ec]
      by_cases gp : s_isp c vb (sv M s i) pl
      · rw [b1_t gp, if_neg (show ¬ (1 : Int32) = 0 by decide), if_neg (show ¬ (1 : Int32) = 0 by decide)]
        have stk : cK (sv M s i) = 3 → -512 ≤ pl.toInt ∧ pl.toInt ≤ -1 := isp_st (by omega) (by omega) gp
        by_cases gl : isl = 0
        · have nf2 : ¬ d_fam c = 2 := fun z => (hl.mpr z) gl
          rw [if_pos gl, if_neg nf2]
          rw [if_neg nf2] at he
          rw [he] at hpl stk
          obtain ⟨N, x, a1, a2, a3, a4, a5⟩ := st_by h hu
          rw [a1, b2_some]
          obtain ⟨q1, q2, q3⟩ := us_c0 hu a4
          have hN : stp N s c := stp_fr h q2.1
          have l6N : mI N 2 0 10 = d_fam c := hN.1.2.2.2.2.2.1
          have l7N : mI N 2 0 11 = d_by c := hN.1.2.2.2.2.2.2.1
          have m7 : mI N 7 0 7 = mI M 7 0 7 := by rw [a4.2.2.2.1 7 0 cP7]
          have ekx : mI N 10 x 0 = cK (s_by c (sv M s)) := by rw [← a2]; rfl
          have eky : mI N 10 (75 * s + i + 1) 0 = cK (sv M s (d_ti c)) := by
            rw [he]
            have : sv N s (d_ti c) = sv M s (d_ti c) := q3 _ (by omega)
            rw [← this]; rfl
          rw [l6N, eky, l7N, ← hpl]
          unfold s_put
          have b154 : ∃ M1 r, f_Steps_memory_b154 0 N (75 * s + i + 1) pl x = some (M1, r) ∧ tk s M M1 ∧ rs s M1 r (if cK (sv M s (d_ti c)) = 3 then (if d_fam c = 5 then s_addTo c pl (sv M s) (mI M 7 0 7) else .ok (s_store c pl (s_by c (sv M s)) (sv M s), mI M 7 0 7)) else .ok (sv M s, mI M 7 0 7)) := by
            unfold f_Steps_memory_b154
            rw [eky]
            by_cases k3 : cK (sv M s (d_ti c)) = 3
            · rw [if_pos k3, if_pos k3, hN.2.2.2.2.1, bd_some, l6N]
              have hsl : sl pl < 75 := by
                obtain ⟨q, hq, hq2, _⟩ := sl_of (stk k3).1 (stk k3).2
                omega
              by_cases f5 : d_fam c = 5
              · rw [if_pos f5, if_pos f5]
                obtain ⟨P, r, b1', b2', b3'⟩ := st_addTo hN q1 (stk k3).1 (stk k3).2
                rw [b1', b2_some]
                refine ⟨P, r, rfl, tk_trans q2 b2', ?_⟩
                have e9 : s_addTo c pl (sv N s) (mI N 7 0 7) = match s_addTo c pl (sv M s) (mI M 7 0 7) with
                    | .error z => .error z
                    | .ok q => .ok (s_store c pl (s_num fn_any) (sv N s), q.2) := by
                  unfold s_addTo
                  rw [q3 _ hsl, m7]
                  by_cases x1 : ¬ cK (sv M s (sl pl)) = 0 ∧ ¬ cK (sv M s (sl pl)) = 1 ∧ d_by c = 8
                  · rw [if_pos x1, if_pos x1]
                  · rw [if_neg x1, if_neg x1]
                    by_cases x2 : c_able (sv M s (sl pl)) (d_bm c pl)
                    · rw [if_pos x2, if_pos x2]
                    · rw [if_neg x2, if_neg x2]
                rw [e9] at b3'
                unfold s_addTo at b3' ⊢
                by_cases x1 : ¬ cK (sv M s (sl pl)) = 0 ∧ ¬ cK (sv M s (sl pl)) = 1 ∧ d_by c = 8
                · rw [if_pos x1] at b3' ⊢; exact b3'
                · rw [if_neg x1] at b3' ⊢
                  by_cases x2 : c_able (sv M s (sl pl)) (d_bm c pl)
                  · rw [if_pos x2] at b3' ⊢
                    exact ⟨b3'.1, fun i hi => (b3'.2.1 i hi).trans (s_store_c q3 hsl i hi), b3'.2.2⟩
                  · rw [if_neg x2] at b3' ⊢; exact b3'
              · rw [if_neg f5, if_neg f5]
                obtain ⟨P, b1', b2', b3', b4'⟩ := st_store (x := x) hN q1 (stk k3).1 (stk k3).2 a3
                rw [b1', bd_some]
                refine ⟨P, 0, rfl, tk_trans q2 b2', rfl, ?_, b4'.trans m7⟩
                intro j hj
                rw [b3' j hj, a2]
                exact s_store_c q3 hsl j hj
            · rw [if_neg k3, if_neg k3]
              exact ⟨N, 0, rfl, q2, rfl, q3, m7⟩
          have b135 : ∀ w : Int32, (¬ w = 0 ↔ (d_fam c = 3 ∧ cK (sv M s (d_ti c)) = 3 ∧ d_by c = 8)) → ∃ M1 r, f_Steps_memory_b135 0 N (75 * s + i + 1) pl x w = some (M1, r) ∧ tk s M M1 ∧ rs s M1 r (if ¬ cK (s_by c (sv M s)) = 1 ∧ ¬ (d_fam c = 3 ∧ cK (sv M s (d_ti c)) = 3 ∧ d_by c = 8) then .error 16 else if cK (sv M s (d_ti c)) = 3 then (if d_fam c = 5 then s_addTo c pl (sv M s) (mI M 7 0 7) else .ok (s_store c pl (s_by c (sv M s)) (sv M s), mI M 7 0 7)) else .ok (sv M s, mI M 7 0 7)) := by
            intro w hw2
            unfold f_Steps_memory_b135
            rw [ekx]
            by_cases k1 : cK (s_by c (sv M s)) = 1
            · rw [if_pos k1, if_neg (fun z => z.1 k1)]; exact b154
            · rw [if_neg k1]
              by_cases w0 : w = 0
              · rw [if_pos w0, if_pos ⟨k1, fun z => (hw2.mpr z) w0⟩]
                exact ⟨N, 16, rfl, q2, rfl⟩
              · rw [if_neg w0, if_neg (fun z => z.2 (hw2.mp w0))]; exact b154
          unfold f_Steps_memory_b134
          by_cases f3 : d_fam c = 3
          · rw [if_pos f3]
            by_cases k3 : cK (sv M s (d_ti c)) = 3
            · rw [if_pos k3]
              by_cases y8 : d_by c = 8
              · rw [if_pos y8]; exact b135 1 ⟨fun _ => ⟨f3, k3, y8⟩, fun _ => by decide⟩
              · rw [if_neg y8]; exact b135 0 ⟨fun z => absurd rfl z, fun z => absurd z.2.2 y8⟩
            · rw [if_neg k3]; exact b135 0 ⟨fun z => absurd rfl z, fun z => absurd z.2.1 k3⟩
          · rw [if_neg f3]; exact b135 0 ⟨fun z => absurd rfl z, fun z => absurd z.1 f3⟩
        · have f2 : d_fam c = 2 := hl.mp gl
          rw [if_neg gl, if_pos f2]
          rw [if_pos f2] at he
          have ek : mI M 10 (75 * s + i + 1) 0 = cK (sv M s i) := rfl
          rw [ek, ← he, ← hpl]
          obtain ⟨P, r, b1', b2', b3'⟩ := st_load (k := cK (sv M s i)) (pl := pl) h hu stk
          rw [b1', b2_some]
          exact ⟨P, r, rfl, b2', b3'⟩
      · rw [b1_f gp, if_pos rfl, if_pos rfl]
        exact ⟨M, 14, rfl, tk_refl hu, rfl⟩
    · rw [if_neg g, if_pos rfl, if_pos (b1_f g)]
      exact ⟨M, 13, rfl, tk_refl hu, rfl⟩
  unfold f_Steps_memory f_Steps_memory_b16
  rw [h.2.2.2.2.1, bd_some, l6]
  by_cases f2 : d_fam c = 2
  · rw [if_pos f2, h.2.2.2.2.2.2.2.2.2.1, bd_some, if_neg (show ¬ (1 : Int32) = 0 by decide), bd_some, l3, e3]
    exact b42 f 1 (by omega) ⟨fun _ => f2, fun _ => by decide⟩ (by rw [if_pos f2, e4])
  · rw [if_neg f2, h.2.2.2.2.2.2.2.2.2.1, bd_some, if_pos (show (0 : Int32) = 0 from rfl), bd_some, l2, e1]
    exact b42 t 0 (by omega) ⟨fun z => absurd rfl z, fun z => absurd z f2⟩ (by rw [if_neg f2, e2])
end CD
