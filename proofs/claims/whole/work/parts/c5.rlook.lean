/-! PURE: the reference explores: its memory as an exploring state; it looks at what is kept. -/
/-- ints that an instruction may change -/
def zA (k j f : Nat) : Prop := iA k j ∨ (k = 13 ∧ (j = 10 ∨ j = 15 ∨ j = 16)) ∨ (k = 1 ∧ j = 0 ∧ (f = 59 ∨ f = 68 ∨ f = 69 ∨ f = 70))
def zB (k j _f : Nat) : Prop := k = 16 ∧ 6 ≤ j ∧ j ≤ 11
/-- ints that a turn may change -/
def yA (k j f : Nat) : Prop := iA k j ∨ (k = 13 ∧ 4 ≤ j ∧ j ≤ 16) ∨ (k = 15 ∧ (j = 1 ∨ j = 2)) ∨ (k = 1 ∧ j = 0 ∧ (f = 22 ∨ f = 23 ∨ f = 24 ∨ f = 25 ∨ f = 59 ∨ f = 62 ∨ f = 65 ∨ f = 68 ∨ f = 69 ∨ f = 70))
def yB (k j _f : Nat) : Prop := k = 16 ∧ (j = 3 ∨ (6 ≤ j ∧ j ≤ 11))
theorem zA_y {k j f : Nat} (h : zA k j f) : yA k j f := by
  rcases h with z | z | z
  · exact Or.inl z
  · exact Or.inr (Or.inl ⟨z.1, by omega, by omega⟩)
  · refine Or.inr (Or.inr (Or.inr ⟨z.1, z.2.1, ?_⟩))
    have := z.2.2
    omega
theorem zB_y {k j f : Nat} (h : zB k j f) : yB k j f := ⟨h.1, Or.inr h.2⟩
abbrev gz (M M1 : me_M) : Prop := gf zA zB M M1
abbrev gy (M M1 : me_M) : Prop := gf yA yB M M1
theorem gz_y {M M1 : me_M} (h : gz M M1) : gy M M1 := gf_mono h (fun _ _ _ => zA_y) (fun _ _ _ => zB_y)
/-- rows of states -/
def rRows (R : me_M) (X : xT) : Prop := e75 (rv R 0) (xNow X) ∧ (∀ i, i < xKn X → e75 (rv R (i + 1)) (xKp X i).1) ∧ ∀ i, i < xWn X → e75 (rv R (201 + i)) (xWt X i).1
def rNum (R : me_M) (X : xT) : Prop := mI R 1 0 23 = nI (xKn X) ∧ mI R 1 0 62 = nI (xWn X) ∧ mI R 1 0 22 = nI (xVi X) ∧ mI R 1 0 24 = nI (xMw X) ∧ mI R 1 0 25 = nI (xPa X)
def rArr (R : me_M) (X : xT) : Prop := (∀ i, i < xKn X → mI R 13 11 (i + 1) = nI (xKp X i).2.1) ∧ ∀ i, i < xWn X → mI R 13 13 i = nI (xWt X i).2
def rFac (n : Nat) (R : me_M) (F : xF) : Prop := ∀ s, s < n → mI R 13 4 s = F.1 s ∧ mI R 15 1 s = b1 (F.2.1 s) ∧ mI R 15 2 s = b1 (F.2.2.1 s) ∧ mI R 13 5 s = F.2.2.2.1 s ∧ (F.2.2.2.1 s = 1 → mL R 16 3 s = F.2.2.2.2 s)
/-- what comes from what: bh is the latest kept, g behind each kept, wb behind each that waits, C b k: k is met from b on -/
def rCh (R : me_M) (X : xT) (bh : Nat) (g wb : Nat → Nat) (C : Nat → Nat → Prop) : Prop := mI R 1 0 65 = nI bh ∧ bh ≤ xKn X ∧ (∀ k, 1 ≤ k → k ≤ xKn X → mI R 13 12 k = nI (g k) ∧ g k < k) ∧ (∀ w, w < xWn X → mI R 13 14 w = nI (wb w) ∧ wb w ≤ xKn X) ∧ (∀ b k, 1 ≤ k → b ≤ xKn X → (C b k ↔ (b = k ∨ (k < b ∧ C (g b) k)))) ∧ (∀ i, i < xKn X → (C bh (i + 1) ↔ (xKp X i).2.2.1)) ∧ (∀ w i, w < xWn X → i < xKn X → (C (wb w) (i + 1) ↔ ((xKp X i).2.2.1 ∧ (xKp X i).2.2.2 ≤ w))) ∧ ∀ i, i < xKn X → (xKp X i).2.2.1 → (xKp X i).2.2.2 ≤ xWn X
def rC (R : me_M) (X : xT) : Prop := ∃ bh g wb C, rCh R X bh g wb C
/-- the reference while it explores -/
def rX2 (n : Nat) (R : me_M) (X : xT) : Prop := rRows R X ∧ mI R 1 0 59 = xIds X ∧ rNum R X ∧ rArr R X ∧ rFac n R (xFa X) ∧ rC R X
/-- what stays -/
def rQ (p : Nat → Int64) (n : Nat) (mk : Nat → Prop) (nm : Nat) (kb vb : Int32 → Int32) (R : me_M) : Prop := ps_M R ∧ kv R ∧ rst R nm kb vb ∧ n ≤ 2000 ∧ (∀ s, s < n → mL R 16 0 s = p s) ∧ ∀ s, s < n → mI R 15 4 s = b1 (mk s)
theorem nI_inj {a b : Nat} (ha : a < 2147483648) (hb : b < 2147483648) (h : nI a = nI b) : a = b := by
  have := congrArg Int32.toInt h
  rw [nI_int ha, nI_int hb] at this
  omega
section RL
variable {p : Nat → Int64} {n nm B : Nat} {sec mk : Nat → Prop} {kb vb : Int32 → Int32} {X : xT} {c : Int64} {R R1 M M1 N : me_M}
theorem rQ_y (h : rQ p n mk nm kb vb R) (g : gy R R1) (hk : kv R1) : rQ p n mk nm kb vb R1 := by
  obtain ⟨h1, h2, h3, h4, h5, h6⟩ := h
  refine ⟨gf_ps g h1, hk, ⟨h3.1, fun m hm => ?_⟩, h4, fun s hs => ?_, fun s hs => ?_⟩
  · have e1 : mI R1 13 1 m = mI R 13 1 m := g.2.2.2.1 13 1 m (by
      rintro (z | z | z | z)
      · rcases z with q | q
        · exact absurd q.1 (by decide)
        · omega
      · omega
      · exact absurd z.1 (by decide)
      · exact absurd z.1 (by decide))
    have e2 : mI R1 13 2 m = mI R 13 2 m := g.2.2.2.1 13 2 m (by
      rintro (z | z | z | z)
      · rcases z with q | q
        · exact absurd q.1 (by decide)
        · omega
      · omega
      · exact absurd z.1 (by decide)
      · exact absurd z.1 (by decide))
    rw [e1, e2]
    exact h3.2 m hm
  · rw [g.2.2.2.2 16 0 s (by rintro ⟨_, z⟩; omega)]
    exact h5 s hs
  · rw [g.2.2.2.1 15 4 s (by
      rintro (z | z | z | z)
      · rcases z with q | q
        · exact absurd q.1 (by decide)
        · exact absurd q.1 (by decide)
      · exact absurd z.1 (by decide)
      · omega
      · exact absurd z.1 (by decide))]
    exact h6 s hs
/-- what an instruction leaves alone -/
theorem gz_1 (g : gz M M1) {f : Nat} (h : ¬ (f = 59 ∨ f = 68 ∨ f = 69 ∨ f = 70)) : mI M1 1 0 f = mI M 1 0 f := g.2.2.2.1 1 0 f (by
  rintro (z | z | z)
  · rcases z with q | q <;> exact absurd q.1 (by decide)
  · exact absurd z.1 (by decide)
  · exact h z.2.2)
theorem gz_13 (g : gz M M1) {j f : Nat} (h : j < 6 ∨ (11 ≤ j ∧ j ≤ 14)) : mI M1 13 j f = mI M 13 j f := g.2.2.2.1 13 j f (by
  rintro (z | z | z)
  · rcases z with q | q
    · exact absurd q.1 (by decide)
    · omega
  · omega
  · exact absurd z.1 (by decide))
theorem gz_15 (g : gz M M1) {j f : Nat} : mI M1 15 j f = mI M 15 j f := g.2.2.2.1 15 j f (by
  rintro (z | z | z)
  · rcases z with q | q <;> exact absurd q.1 (by decide)
  · exact absurd z.1 (by decide)
  · exact absurd z.1 (by decide))
theorem gz_16 (g : gz M M1) {j f : Nat} (h : j < 6) : mL M1 16 j f = mL M 16 j f := g.2.2.2.2 16 j f (by rintro ⟨_, z⟩; omega)
theorem num_z (g : gz M M1) (h : rNum M X) : rNum M1 X := by
  unfold rNum at h ⊢
  rw [gz_1 g (by decide), gz_1 g (by decide), gz_1 g (by decide), gz_1 g (by decide), gz_1 g (by decide)]
  exact h
theorem arr_z (g : gz M M1) (h : rArr M X) : rArr M1 X := by
  refine ⟨fun i hi => ?_, fun i hi => ?_⟩
  · rw [gz_13 g (by decide)]; exact h.1 i hi
  · rw [gz_13 g (by decide)]; exact h.2 i hi
theorem fac_z {F : xF} (g : gz M M1) (h : rFac n M F) : rFac n M1 F := by
  intro s hs
  rw [gz_13 g (by decide), gz_13 g (by decide), gz_15 g, gz_15 g, gz_16 g (by decide)]
  exact h s hs
theorem ch_z {bh : Nat} {k wb : Nat → Nat} {C : Nat → Nat → Prop} (g : gz M M1) (h : rCh M X bh k wb C) : rCh M1 X bh k wb C := by
  obtain ⟨h1, h2, h3, h4, h5⟩ := h
  refine ⟨by rw [gz_1 g (by decide)]; exact h1, h2, fun q a b => ?_, fun w hw => ?_, h5⟩
  · rw [gz_13 g (by decide)]; exact h3 q a b
  · rw [gz_13 g (by decide)]; exact h4 w hw
theorem c_z (g : gz M M1) (h : rC M X) : rC M1 X := by
  obtain ⟨bh, k, wb, C, h⟩ := h
  exact ⟨bh, k, wb, C, ch_z g h⟩
theorem rp_z (h : rp M M1) : gz M M1 := gf_mono h (fun k j f z => by
  rcases z with z | z
  · exact Or.inr (Or.inr ⟨z.1, z.2.1, by omega⟩)
  · exact Or.inr (Or.inl ⟨z.1, by omega⟩)) (fun _ _ _ z => z.elim)
theorem rp_kv (h : rp M M1) (k : kv M) : kv M1 := kv_eq k (fun q => h.2.2.2.1 14 8 q (by
  rintro (z | z)
  · exact absurd z.1 (by decide)
  · exact absurd z.1 (by decide)))
theorem rX2_p (h : rX2 n M X) (g : rp M M1) : rX2 n M1 X := by
  obtain ⟨h1, h2, h3, h4, h5, h6⟩ := h
  have z := rp_z g
  refine ⟨⟨?_, ?_, ?_⟩, ?_, num_z z h3, arr_z z h4, fac_z z h5, c_z z h6⟩
  · rw [rp_rv g]; exact h1.1
  · intro i hi; rw [rp_rv g]; exact h1.2.1 i hi
  · intro i hi; rw [rp_rv g]; exact h1.2.2 i hi
  · rw [g.2.2.2.1 1 0 59 (by
      rintro (q | q)
      · exact absurd q.2.2 (by decide)
      · exact absurd q.1 (by decide))]
    exact h2
/-! coming from -/
theorem rcomes_l (hM : ps_M M) (hK : xKn X ≤ 200) {bh : Nat} {g wb : Nat → Nat} {C : Nat → Nat → Prop} (h : rCh M X bh g wb C) {k : Nat} (hk : 1 ≤ k) (hk2 : k ≤ 200) : ∀ (b fu : Nat), b ≤ xKn X → b < fu → f_M_comesFrom_l2 0 (nI k) fu M (nI b) = some (M, b1 (C b k)) := by
  obtain ⟨h1, h2, h3, h4, h5, h6⟩ := h
  intro b
  induction b using Nat.strongRecOn with
  | ind b ih =>
    intro fu hb hf
    obtain ⟨fu, rfl⟩ : ∃ f, fu = f + 1 := ⟨fu - 1, by omega⟩
    rw [f_M_comesFrom_l2]
    by_cases le : b ≤ k
    · rw [if_pos ((nI_lei (by omega) (by omega)).mpr le)]
      by_cases e : b = k
      · rw [if_pos (by rw [e]), b1_t ((h5 b k hk hb).mpr (Or.inl e))]
      · rw [if_neg (fun z => e (nI_inj (by omega) (by omega) z)), b1_f (fun z => by
          rcases (h5 b k hk hb).mp z with q | q
          · exact e q
          · omega)]
    · obtain ⟨e1, e2⟩ := h3 b (by omega) hb
      rw [if_neg (fun z => le ((nI_lei (by omega) (by omega)).mp z)), rs_61 hM, bd_some, rz_13_12 hM, gd_pos (ix_ok (by omega) (by decide)), nI_tn (by omega), st_eq, e1, ih (g b) e2 fu (by omega) (by omega)]
      have : C b k ↔ C (g b) k := by
        rw [h5 b k hk hb]
        exact ⟨fun z => by
          rcases z with q | q
          · omega
          · exact q.2, fun z => Or.inr ⟨by omega, z⟩⟩
      rw [b1_c this]
theorem ropen (hM : ps_M M) (hK : xKn X ≤ 200) (hW : xWn X ≤ 200) (hw : mI M 1 0 62 = nI (xWn X)) (h : rC M X) {i : Nat} (hi : i < xKn X) : f_M_isOpen M 0 (nI (i + 1)) = some (M, b1 (xKp X i).2.2.1) := by
  obtain ⟨bh, g, wb, C, h⟩ := h
  have key := rcomes_l hM hK h (k := i + 1) (by omega) (by omega)
  obtain ⟨h1, h2, h3, h4, h5, h6, h7, h8⟩ := h
  have cf : ∀ b, b ≤ xKn X → f_M_comesFrom M 0 (nI b) (nI (i + 1)) = some (M, b1 (C b (i + 1))) := by
    intro b hb
    unfold f_M_comesFrom
    exact key b fuel hb (by unfold fuel; omega)
  have loop : ∀ (m w fu : Nat), w + m = xWn X → m < fu → f_M_isOpen_l12 0 (nI (i + 1)) fu M (b1 (xKp X i).2.2.1) (nI w) = some (M, b1 (xKp X i).2.2.1) := by
    intro m
    induction m with
    | zero =>
      intro w fu e hf
      obtain ⟨fu, rfl⟩ : ∃ f, fu = f + 1 := ⟨fu - 1, by omega⟩
      rw [f_M_isOpen_l12, hw, if_pos ((nI_lei (by omega) (by omega)).mpr (by omega))]
    | succ m ih =>
      intro w fu e hf
      obtain ⟨fu, rfl⟩ : ∃ f, fu = f + 1 := ⟨fu - 1, by omega⟩
      rw [f_M_isOpen_l12, hw, if_neg (fun z => by have := (nI_lei (by omega) (by omega)).mp z; omega)]
      have nx := ih (w + 1) fu (by omega) (by omega)
      rw [← nI_s w] at nx
      by_cases o : (xKp X i).2.2.1
      · rw [if_neg (b1_n0 o)]
        rw [b1_t o] at nx ⊢
        exact nx
      · obtain ⟨e1, e2⟩ := h4 w (by omega)
        rw [if_pos (b1_f o), rs_64 hM, bd_some, rz_13_14 hM, gd_pos (ix_ok (by omega) (by decide)), nI_tn (by omega), e1, cf _ e2, b2_some, b1_f (fun z => o ((h7 w i (by omega) hi).mp z).1), if_pos rfl]
        rw [b1_f o] at nx ⊢
        exact nx
  unfold f_M_isOpen
  rw [h1, cf bh h2, b2_some, b1_c (h6 i hi)]
  exact loop (xWn X) 0 fuel (by omega) (by unfold fuel; omega)
/-! writes apart from the rows -/
theorem rv_w {a b f r : Nat} {v : Int32} (h : ¬ iA a b) (h2 : ¬ (a = 13 ∧ b = 10)) : rv (wI M a b f v) r = rv M r := by
  have e : ∀ k j x, (iA k j ∨ (k = 13 ∧ j = 10)) → mI (wI M a b f v) k j x = mI M k j x := fun k j x hk => by
    rw [pI_I, if_neg (fun z => by rw [z.1, z.2.1] at hk; rcases hk with q | q; exact h q; exact h2 q)]
  funext i
  unfold rv it
  rw [rg_I, e 14 8 _ (Or.inl (Or.inl ⟨rfl, rfl⟩)), e 13 6 _ (Or.inl (Or.inr ⟨rfl, by decide, by decide⟩)), e 13 7 _ (Or.inl (Or.inr ⟨rfl, by decide, by decide⟩)), e 13 8 _ (Or.inl (Or.inr ⟨rfl, by decide, by decide⟩)), e 13 9 _ (Or.inl (Or.inr ⟨rfl, by decide, by decide⟩)), e 13 10 _ (Or.inr ⟨rfl, rfl⟩)]
theorem kv_w {a b f : Nat} {v : Int32} (h : ¬ iA a b) (k : kv M) : kv (wI M a b f v) := kv_eq k (fun q => by rw [pI_I, if_neg (fun z => h (by rw [← z.1, ← z.2.1]; exact Or.inl ⟨rfl, rfl⟩))])
theorem rf_row {b r : Nat} (h : rf (iR b) (iW b) M M1) (hr : ¬ r = b) : e75 (rv M1 r) (rv M r) := rJ_rv (O := fun _ => False) (rJ_f h) (fun f z => by have := z.1; have := z.2; intro q; have := q.1; have := q.2; omega) (fun f z => by have := z.1; have := z.2; intro q; have := q.1; have := q.2; omega)
theorem rJ_z {S T O : Nat → Prop} (h : rJ S T O M M1) (hO : ∀ f, O f → f = 59 ∨ f = 68 ∨ f = 69 ∨ f = 70) : gz M M1 := gf_mono h (fun k j f z => by
  rcases z with z | z | z
  · exact Or.inl z.1
  · exact Or.inr (Or.inl ⟨z.1, Or.inl z.2.1⟩)
  · exact Or.inr (Or.inr ⟨z.1, z.2.1, hO f z.2.2⟩)) (fun _ _ _ z => ⟨z.1, z.2.1⟩)
theorem rf_z {S T : Nat → Prop} (h : rf S T M M1) : gz M M1 := rJ_z (O := fun _ => False) (rJ_f h) (fun _ z => z.elim)
theorem n13 {j : Nat} (h : ¬ (6 ≤ j ∧ j ≤ 9)) : ¬ iA 13 j := by
  rintro (z | z)
  · exact absurd z.1 (by decide)
  · exact h z.2
theorem n1 : ¬ iA 1 0 := by
  rintro (z | z) <;> exact absurd z.1 (by decide)
theorem n15 {j : Nat} : ¬ iA 15 j := by
  rintro (z | z) <;> exact absurd z.1 (by decide)
theorem wI_j {a b f k j x : Nat} {v : Int32} (h : ¬ (k = a ∧ j = b)) : mI (wI M a b f v) k j x = mI M k j x := by rw [pI_I, if_neg (fun z => h ⟨z.1, z.2.1⟩)]
/-! a state is kept -/
theorem rkeep (hQ : rQ p n mk nm kb vb R) (hX : rX2 n R X) (hK : xKn X < 200) (hW : xWn X ≤ 200) {N4 : me_M} (hc : rf (iR (xKn X + 1)) (iW (xKn X + 1)) (wI R 1 0 23 (nI (xKn X + 1))) N4) (hk4 : kv N4) (hr : ∀ j, j < 75 → rv N4 (xKn X + 1) j = rv (wI R 1 0 23 (nI (xKn X + 1))) 0 j) {bh : Nat} {g wb : Nat → Nat} {C : Nat → Nat → Prop} (hC : rCh R X bh g wb C) : gy R (wI (wI (wI N4 13 11 (xKn X + 1) (nI (xAt X))) 13 12 (xKn X + 1) (nI bh)) 1 0 65 (nI (xKn X + 1))) ∧ kv (wI (wI (wI N4 13 11 (xKn X + 1) (nI (xAt X))) 13 12 (xKn X + 1) (nI bh)) 1 0 65 (nI (xKn X + 1))) ∧ rX2 n (wI (wI (wI N4 13 11 (xKn X + 1) (nI (xAt X))) 13 12 (xKn X + 1) (nI bh)) 1 0 65 (nI (xKn X + 1))) (x_keep X) := by
  obtain ⟨K, hKd⟩ : ∃ K, K = xKn X := ⟨_, rfl⟩
  rw [← hKd] at hc hr hK ⊢
  obtain ⟨N3, hN3⟩ : ∃ N3, N3 = wI R 1 0 23 (nI (K + 1)) := ⟨_, rfl⟩
  rw [← hN3] at hc hr
  have z4 := rf_z hc
  have y3 : gy R N3 := by rw [hN3]; exact gf_I (Or.inr (Or.inr (Or.inr ⟨rfl, rfl, by omega⟩)))
  have r3 : ∀ r, rv N3 r = rv R r := fun r => by rw [hN3]; exact rv_w n1 (by decide)
  obtain ⟨N5, hN5⟩ : ∃ N5, N5 = wI N4 13 11 (K + 1) (nI (xAt X)) := ⟨_, rfl⟩
  obtain ⟨N6, hN6⟩ : ∃ N6, N6 = wI N5 13 12 (K + 1) (nI bh) := ⟨_, rfl⟩
  obtain ⟨N7, hN7⟩ : ∃ N7, N7 = wI N6 1 0 65 (nI (K + 1)) := ⟨_, rfl⟩
  rw [← hN5, ← hN6, ← hN7]
  have r7 : ∀ r, rv N7 r = rv N4 r := fun r => by rw [hN7, rv_w n1 (by decide), hN6, rv_w (n13 (by decide)) (by decide), hN5, rv_w (n13 (by decide)) (by decide)]
  have y7 : gy R N7 := by
    refine gf_trans y3 (gf_trans (gz_y z4) ?_)
    rw [hN7, hN6, hN5]
    exact gf_trans (gf_I (Or.inr (Or.inl ⟨rfl, by decide, by decide⟩))) (gf_trans (gf_I (Or.inr (Or.inl ⟨rfl, by decide, by decide⟩))) (gf_I (Or.inr (Or.inr (Or.inr ⟨rfl, rfl, by omega⟩)))))
  have k7 : kv N7 := by rw [hN7, hN6, hN5]; exact kv_w n1 (kv_w (n13 (by decide)) (kv_w (n13 (by decide)) hk4))
  have e1 : ∀ f, ¬ f = 65 → ¬ f = 23 → ¬ (f = 59 ∨ f = 68 ∨ f = 69 ∨ f = 70) → mI N7 1 0 f = mI R 1 0 f := by
    intro f n65 n23 nz
    rw [hN7, pI_place n65, hN6, wI_j (by decide), hN5, wI_j (by decide), gz_1 z4 nz, hN3, pI_place n23]
  have ej : ∀ j f, (j < 6 ∨ (11 ≤ j ∧ j ≤ 14)) → ¬ (f = K + 1 ∧ (j = 11 ∨ j = 12)) → mI N7 13 j f = mI R 13 j f := by
    intro j f hj hf
    rw [hN7, wI_j (by omega), hN6, pI_I, if_neg (fun z => hf ⟨z.2.2, Or.inr z.2.1⟩), hN5, pI_I, if_neg (fun z => hf ⟨z.2.2, Or.inl z.2.1⟩), gz_13 z4 hj, hN3, wI_j (by omega)]
  have e15 : ∀ j f, mI N7 15 j f = mI R 15 j f := by
    intro j f
    rw [hN7, wI_j (by omega), hN6, wI_j (by omega), hN5, wI_j (by omega), gz_15 z4, hN3, wI_j (by omega)]
  have e16 : ∀ j f, j < 6 → mL N7 16 j f = mL R 16 j f := by
    intro j f hj
    rw [hN7, pL_I, hN6, pL_I, hN5, pL_I, gz_16 z4 hj, hN3, pL_I]
  have e65 : mI N7 1 0 65 = nI (K + 1) := by rw [hN7, pI_same]
  have e23 : mI N7 1 0 23 = nI (K + 1) := by
    rw [hN7, pI_place (by decide), hN6, wI_j (by decide), hN5, wI_j (by decide), gz_1 z4 (by decide), hN3, pI_same]
  have e59 : mI N7 1 0 59 = mI R 1 0 59 := by
    rw [hN7, pI_place (by decide), hN6, wI_j (by decide), hN5, wI_j (by decide), rf_59 hc, hN3, pI_place (by decide)]
  have e11 : mI N7 13 11 (K + 1) = nI (xAt X) := by rw [hN7, wI_j (by decide), hN6, wI_j (by decide), hN5, pI_same]
  have e12 : mI N7 13 12 (K + 1) = nI bh := by rw [hN7, wI_j (by decide), hN6, pI_same]
  refine ⟨y7, k7, ?_⟩
  obtain ⟨h1, h2, h3, h4, h5, _⟩ := hX
  obtain ⟨c1, c2, c3, c4, c5, c6, c7, c8⟩ := hC
  rw [← hKd] at c2 c3 c4 c5 c6 c7 c8
  obtain ⟨a1, a2, a3⟩ := h1
  rw [← hKd] at a2
  obtain ⟨m1, m2, m3, m4, m5⟩ := h3
  have hk : x_keep X = (xNow X, xAt X, xIds X, K + 1, fup (xKp X) K (xNow X, xAt X, True, xWn X), xWn X, xWt X, xVi X, xMw X, xPa X, xFa X) := by
    unfold x_keep
    rw [if_pos (by omega), ← hKd]
  rw [hk]
  refine ⟨⟨?_, ?_, ?_⟩, ?_, ⟨?_, ?_, ?_, ?_, ?_⟩, ⟨?_, ?_⟩, ?_, ?_⟩
  · show e75 (rv N7 0) (xNow X)
    rw [r7]
    refine e75_trans (rf_row hc (by omega)) ?_
    rw [r3]
    exact a1
  · intro i hi
    have hi2 : i < K + 1 := hi
    show e75 (rv N7 (i + 1)) (fup (xKp X) K (xNow X, xAt X, True, xWn X) i).1
    rw [r7]
    by_cases e : i = K
    · rw [e, fup_s]
      refine e75_trans hr ?_
      rw [r3]
      exact a1
    · rw [fup_o e]
      refine e75_trans (rf_row hc (by omega)) ?_
      rw [r3]
      exact a2 i (by omega)
  · intro i hi
    have hi2 : i < xWn X := hi
    show e75 (rv N7 (201 + i)) (xWt X i).1
    rw [r7]
    refine e75_trans (rf_row hc (by omega)) ?_
    rw [r3]
    exact a3 i hi
  · rw [e59]; exact h2
  · exact e23
  · rw [e1 62 (by decide) (by decide) (by decide)]; exact m2
  · rw [e1 22 (by decide) (by decide) (by decide)]; exact m3
  · rw [e1 24 (by decide) (by decide) (by decide)]; exact m4
  · rw [e1 25 (by decide) (by decide) (by decide)]; exact m5
  · intro i hi
    have hi2 : i < K + 1 := hi
    show mI N7 13 11 (i + 1) = nI (fup (xKp X) K (xNow X, xAt X, True, xWn X) i).2.1
    by_cases e : i = K
    · rw [e, fup_s, e11]
    · rw [fup_o e, ej 11 _ (by decide) (by omega)]
      exact h4.1 i (by omega)
  · intro i hi
    show mI N7 13 13 i = nI (xWt X i).2
    rw [ej 13 _ (by decide) (by omega)]
    exact h4.2 i hi
  · intro s hs
    show mI N7 13 4 s = (xFa X).1 s ∧ mI N7 15 1 s = b1 ((xFa X).2.1 s) ∧ mI N7 15 2 s = b1 ((xFa X).2.2.1 s) ∧ mI N7 13 5 s = (xFa X).2.2.2.1 s ∧ ((xFa X).2.2.2.1 s = 1 → mL N7 16 3 s = (xFa X).2.2.2.2 s)
    rw [ej 4 _ (by decide) (by omega), ej 5 _ (by decide) (by omega), e15, e15, e16 _ _ (by decide)]
    exact h5 s hs
  · refine ⟨K + 1, fup g (K + 1) bh, wb, fun b k => if b = K + 1 then (k = K + 1 ∨ (k < K + 1 ∧ C bh k)) else C b k, e65, Nat.le_refl _, ?_, ?_, ?_, ?_, ?_, ?_⟩
    · intro k k1 k2
      have k3 : k ≤ K + 1 := k2
      by_cases e : k = K + 1
      · rw [e, fup_s, e12]
        exact ⟨rfl, by omega⟩
      · rw [fup_o e, ej 12 _ (by decide) (by omega)]
        exact c3 k k1 (by omega)
    · intro w hw
      rw [ej 14 _ (by decide) (by omega)]
      have := c4 w hw
      exact ⟨this.1, by show wb w ≤ K + 1; omega⟩
    · intro b k k1 k2
      have k3 : b ≤ K + 1 := k2
      show (if b = K + 1 then (k = K + 1 ∨ (k < K + 1 ∧ C bh k)) else C b k) ↔ (b = k ∨ (k < b ∧ (if fup g (K + 1) bh b = K + 1 then (k = K + 1 ∨ (k < K + 1 ∧ C bh k)) else C (fup g (K + 1) bh b) k)))
      by_cases e : b = K + 1
      · rw [if_pos e, e, fup_s, if_neg (show ¬ bh = K + 1 by omega)]
        exact ⟨fun z => z.elim (fun q => Or.inl q.symm) (fun q => Or.inr q), fun z => z.elim (fun q => Or.inl q.symm) (fun q => Or.inr q)⟩
      · rw [if_neg e, fup_o e]
        by_cases b0 : b = 0
        · rw [c5 b k k1 (by omega), b0]
          exact ⟨fun z => z.elim Or.inl (fun q => absurd q.1 (by omega)), fun z => z.elim Or.inl (fun q => absurd q.1 (by omega))⟩
        · have := (c3 b (by omega) (by omega)).2
          rw [if_neg (show ¬ g b = K + 1 by omega)]
          exact c5 b k k1 (by omega)
    · intro i hi
      have hi2 : i < K + 1 := hi
      show (if K + 1 = K + 1 then (i + 1 = K + 1 ∨ (i + 1 < K + 1 ∧ C bh (i + 1))) else C (K + 1) (i + 1)) ↔ (fup (xKp X) K (xNow X, xAt X, True, xWn X) i).2.2.1
      rw [if_pos rfl]
      by_cases e : i = K
      · rw [e, fup_s]
        exact ⟨fun _ => trivial, fun _ => Or.inl rfl⟩
      · rw [fup_o e, ← c6 i (by omega)]
        exact ⟨fun z => z.elim (fun q => absurd q (by omega)) (fun q => q.2), fun z => Or.inr ⟨by omega, z⟩⟩
    · intro w i hw hi
      have hi2 : i < K + 1 := hi
      have hw2 : w < xWn X := hw
      show (if wb w = K + 1 then (i + 1 = K + 1 ∨ (i + 1 < K + 1 ∧ C bh (i + 1))) else C (wb w) (i + 1)) ↔ ((fup (xKp X) K (xNow X, xAt X, True, xWn X) i).2.2.1 ∧ (fup (xKp X) K (xNow X, xAt X, True, xWn X) i).2.2.2 ≤ w)
      have wle := (c4 w hw).2
      rw [if_neg (show ¬ wb w = K + 1 by omega)]
      by_cases e : i = K
      · rw [e, fup_s, c5 (wb w) (K + 1) (by omega) wle]
        refine ⟨fun z => ?_, fun z => ?_⟩
        · rcases z with q | q <;> omega
        · have : xWn X ≤ w := z.2
          omega
      · rw [fup_o e]
        exact c7 w i hw (by omega)
    · intro i hi
      have hi2 : i < K + 1 := hi
      show (fup (xKp X) K (xNow X, xAt X, True, xWn X) i).2.2.1 → (fup (xKp X) K (xNow X, xAt X, True, xWn X) i).2.2.2 ≤ xWn X
      by_cases e : i = K
      · rw [e, fup_s]
        exact fun _ => Nat.le_refl _
      · rw [fup_o e]
        exact c8 i (by omega)
end RL
