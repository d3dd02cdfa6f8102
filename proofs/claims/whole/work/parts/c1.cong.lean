/-! PURE: what an instruction does asks only for the 75 cells of a state; what it keeps. -/
def e75 (σ τ : sT) : Prop := ∀ i, i < 75 → σ i = τ i
def eR (a b : sR) : Prop := match a, b with
  | .error f, .error g => f = g
  | .ok p, .ok q => e75 p.1 q.1 ∧ p.2 = q.2
  | _, _ => False
def eO (a b : Option sT) : Prop := match a, b with
  | none, none => True
  | some p, some q => e75 p q
  | _, _ => False
def eG (a b : sG) : Prop := match a, b with
  | .error f, .error g => f = g
  | .ok p, .ok q => eO p.1 q.1 ∧ eO p.2 q.2
  | _, _ => False
theorem e75_refl {σ : sT} : e75 σ σ := fun _ _ => rfl
theorem e75_symm {σ τ : sT} (h : e75 σ τ) : e75 τ σ := fun i hi => (h i hi).symm
theorem e75_trans {σ τ ρ : sT} (h : e75 σ τ) (g : e75 τ ρ) : e75 σ ρ := fun i hi => (h i hi).trans (g i hi)
section CO
variable {σ τ : sT} {c w : Int64} {nm : Nat} {kb vb : Int32 → Int32} {ids : Int32}
theorem up_c (h : e75 σ τ) {i : Nat} {x y : sC} (hx : x = y) : e75 (up σ i x) (up τ i y) := by
  intro j hj
  unfold up
  rw [h j hj, hx]
theorem eR_ok (h : e75 σ τ) : eR (.ok (σ, ids)) (.ok (τ, ids)) := ⟨h, rfl⟩
theorem eR_er {f : Int32} : eR (.error f) (.error f) := rfl
theorem by_e (h : e75 σ τ) (hf : d_fi c < 11) : s_by c σ = s_by c τ := by
  unfold s_by
  rw [h _ (by omega)]
theorem wf_e (h : e75 σ τ) (hw : s_wf nm σ) : s_wf nm τ := by
  intro i hi
  rw [← h i hi]
  exact hw i hi
theorem rm_e (h : e75 σ τ) (hw : s_rm σ) : s_rm τ := by
  intro i hi
  rw [← h i hi]
  exact hw i hi
theorem mv_e (h : e75 σ τ) {i : Nat} {o : Option (sC × Int32)} : eR (s_mv σ i o) (s_mv τ i o) := by
  cases o with
  | none => exact eR_er
  | some q => exact eR_ok (up_c h rfl)
theorem arith_e (h : e75 σ τ) (ht : d_ti c < 11) (hf : d_fi c < 11) : eR (s_arith c σ ids) (s_arith c τ ids) := by
  unfold s_arith
  rw [h _ (show d_ti c < 75 by omega), by_e h hf]
  repeat' split
  all_goals first | exact eR_er | exact mv_e h | exact eR_ok (up_c h rfl)
theorem sl_75 {p : Int32} (h1 : -512 ≤ p.toInt) (h2 : p.toInt ≤ -1) : sl p < 75 := by
  obtain ⟨q, a, b, _⟩ := sl_of h1 h2
  omega
theorem mem_e (h : e75 σ τ) (hw : s_wf nm σ) (ht : d_ti c < 11) (hf : d_fi c < 11) : eR (s_mem c vb σ ids) (s_mem c vb τ ids) := by
  obtain ⟨b, hb⟩ : ∃ b, b = (if d_fam c = 2 then d_fi c else d_ti c) := ⟨_, rfl⟩
  have hb11 : b < 11 := by rw [hb]; split <;> assumption
  unfold s_mem
  rw [← hb, h b (by omega)]
  by_cases g1 : c_ptr (τ b)
  · rw [if_neg (b1_n0 g1), if_neg (b1_n0 g1)]
    by_cases g2 : s_isp c vb (τ b) (cPl (τ b) + d_off c)
    · rw [if_neg (b1_n0 g2), if_neg (b1_n0 g2)]
      have bnd : cK (τ b) = 3 → sl (cPl (τ b) + d_off c) < 75 := by
        intro k3
        obtain ⟨q1, q2⟩ := (wf_e h hw b (by omega)).1
        obtain ⟨q3, q4⟩ := off_b c
        have e := add_b (a := cPl (τ b)) (b := d_off c) (by omega) (by omega) (by omega) (by omega)
        obtain ⟨q5, q6⟩ := isp_st (by omega) (by omega) g2 k3
        exact sl_75 q5 q6
      by_cases f2 : d_fam c = 2
      · rw [if_pos f2] at hb
        subst hb
        rw [if_pos f2, if_pos f2, h (d_fi c) (by omega)]
        generalize cPl (τ (d_fi c)) + d_off c = pl at bnd
        unfold s_load s_rd
        by_cases k3 : cK (τ (d_fi c)) = 3
        · rw [if_pos k3, if_pos k3, h _ (bnd k3)]
          repeat' split
          all_goals first | exact eR_er | exact eR_ok (up_c h rfl)
        · rw [if_neg k3, if_neg k3]
          exact eR_ok (up_c h rfl)
      · rw [if_neg f2] at hb
        subst hb
        rw [if_neg f2, if_neg f2, h (d_ti c) (by omega), by_e h hf]
        generalize cPl (τ (d_ti c)) + d_off c = pl at bnd
        unfold s_put s_addTo
        by_cases k3 : cK (τ (d_ti c)) = 3
        · rw [if_pos k3, if_pos k3, h _ (bnd k3)]
          repeat' split
          all_goals first | exact eR_er | exact eR_ok (s_store_c h (bnd k3))
        · rw [if_neg k3, if_neg k3]
          repeat' split
          all_goals first | exact eR_er | exact eR_ok h
    · rw [if_pos (b1_f g2), if_pos (b1_f g2)]
      exact eR_er
  · rw [if_pos (b1_f g1), if_pos (b1_f g1)]
    exact eR_er
theorem frd_e (h : e75 σ τ) {p : sC} {n : Int32} : s_frd vb σ p n = s_frd vb τ p n := by
  have e : b1 (s_able σ (cPl p) n) = b1 (s_able τ (cPl p) n) := by
    refine b1_c ?_
    unfold s_able
    constructor
    · rintro ⟨z1, z2, z3⟩
      refine ⟨z1, z2, fun q h1 h2 => ?_⟩
      have z2' := z2
      rw [Int32.lt_iff_toInt_lt, show (-512 : Int32).toInt = -512 from rfl] at z1
      rw [Int32.le_iff_toInt_le, show (0 : Int32).toInt = 0 from rfl] at z2'
      have := z3 q h1 h2
      show c_able (τ (sl q)) _
      rw [← h _ (sl_75 (by omega) (by omega))]
      exact this
    · rintro ⟨z1, z2, z3⟩
      refine ⟨z1, z2, fun q h1 h2 => ?_⟩
      have z2' := z2
      rw [Int32.lt_iff_toInt_lt, show (-512 : Int32).toInt = -512 from rfl] at z1
      rw [Int32.le_iff_toInt_le, show (0 : Int32).toInt = 0 from rfl] at z2'
      have := z3 q h1 h2
      show c_able (σ (sl q)) _
      rw [h _ (sl_75 (by omega) (by omega))]
      exact this
  unfold s_frd
  rw [e]
theorem far_e (h : e75 σ τ) : s_far c kb vb σ = s_far c kb vb τ := by
  unfold s_far s_fa1
  rw [h 1 (by decide), h 2 (by decide), h 3 (by decide)]
  simp only [frd_e h]
theorem lost_e (h : e75 σ τ) : e75 (s_lost σ) (s_lost τ) := by
  intro i hi
  unfold s_lost
  rw [h i hi]
theorem help_e (h : e75 σ τ) : eR (s_help c kb vb σ ids) (s_help c kb vb τ ids) := by
  unfold s_help
  rw [far_e h, h 1 (by decide)]
  by_cases g : s_far c kb vb τ = 0
  · rw [if_pos g, if_pos g]
    unfold s_give
    repeat' split
    all_goals exact eR_ok (up_c (lost_e h) rfl)
  · rw [if_neg g, if_neg g]
    exact eR_er
theorem do_e (h : e75 σ τ) (hw : s_wf nm σ) (ht : d_ti c < 11) (hf : d_fi c < 11) : eR (s_do c w kb vb σ ids) (s_do c w kb vb τ ids) := by
  unfold s_do
  by_cases f1 : d_fam c = 1
  · rw [if_pos f1, if_pos f1]
    exact eR_ok (up_c h rfl)
  rw [if_neg f1, if_neg f1]
  by_cases f6 : d_fam c = 6
  · rw [if_pos f6, if_pos f6]
    exact arith_e h ht hf
  rw [if_neg f6, if_neg f6]
  by_cases f7 : d_fam c = 7
  · rw [if_pos f7, if_pos f7]
    exact eR_ok h
  rw [if_neg f7, if_neg f7]
  by_cases f9 : d_fam c = 9
  · rw [if_pos f9, if_pos f9]
    exact help_e h
  rw [if_neg f9, if_neg f9]
  by_cases f10 : d_fam c = 10
  · rw [if_pos f10, if_pos f10, h 0 (by decide)]
    split
    · exact eR_ok h
    · exact eR_er
  rw [if_neg f10, if_neg f10]
  exact mem_e h hw ht hf
theorem unr_e (h : e75 σ τ) (ht : d_ti c < 11) (hf : d_fi c < 11) : s_unr c σ ↔ s_unr c τ := by
  show (¬ d_rt c = 0 ∧ cK (σ (d_ti c)) = 0) ∨ (¬ d_rf c = 0 ∧ cK (σ (d_fi c)) = 0) ↔ _
  rw [h _ (show d_ti c < 75 by omega), h _ (show d_fi c < 75 by omega)]
theorem dec_e (h : e75 σ τ) {id k : Int32} : e75 (s_dec id k σ) (s_dec id k τ) := by
  intro i hi
  unfold s_dec
  rw [h i hi]
theorem room_e (h : e75 σ τ) {id k : Int32} : e75 (s_room id k σ) (s_room id k τ) := by
  intro i hi
  unfold s_room
  rw [h i hi]
theorem eG_2 {a b a2 b2 : sT} (h : e75 a a2) (g : e75 b b2) : eG (.ok (some a, some b)) (.ok (some a2, some b2)) := ⟨h, g⟩
theorem eG_er {f : Int32} : eG (.error f) (.error f) := rfl
theorem map_e (h : e75 σ τ) {o : Option (fn_N × fn_N)} : eO (o.map (s_tn c σ)) (o.map (s_tn c τ)) := by
  cases o with
  | none => exact trivial
  | some q => exact s_tn_c h
theorem end_e (h : e75 σ τ) {p : sC} {r : Int32} : eG (s_end p r σ) (s_end p r τ) := by
  unfold s_end
  repeat' split
  all_goals first | exact eG_er | exact eG_2 (room_e h) (room_e h)
theorem rel_e (h : e75 σ τ) (ht : d_ti c < 11) (hf : d_fi c < 11) : eG (s_rel c σ) (s_rel c τ) := by
  unfold s_rel
  rw [h _ (show d_ti c < 75 by omega), by_e h hf]
  repeat' split
  all_goals first | exact eG_er | exact end_e h | exact eG_2 h h | exact eG_2 (dec_e h) (dec_e h) | exact ⟨map_e h, map_e h⟩
/-! what is kept -/
/-- a cell's place is not far, its map is there -/
def c_wf (nm : Nat) (x : sC) : Prop := (-65535 ≤ (cPl x).toInt ∧ (cPl x).toInt ≤ 65535) ∧ ((cK x = 6 ∨ cK x = 7 ∨ cK x = 8) → ∃ m, m < nm ∧ cM x = nI m) ∧ ¬ cR x < 0
def s_gd (nm : Nat) (σ : sT) : Prop := ∀ i, i < 75 → c_wf nm (σ i)
theorem gd_wf (h : s_gd nm σ) : s_wf nm σ := fun i hi => ⟨(h i hi).1, (h i hi).2.1⟩
theorem gd_rm (h : s_gd nm σ) : s_rm σ := fun i hi => (h i hi).2.2
theorem gd_up (h : s_gd nm σ) {i : Nat} {x : sC} (hx : c_wf nm x) : s_gd nm (up σ i x) := by
  intro j hj
  unfold up
  by_cases g : j = i
  · rw [if_pos g]; exact hx
  · rw [if_neg g]; exact h j hj
theorem wf_of {k p m i r w : Int32} {x : fn_N} (hp : -65535 ≤ p.toInt ∧ p.toInt ≤ 65535) (hm : (k = 6 ∨ k = 7 ∨ k = 8) → ∃ q, q < nm ∧ m = nI q) (hr : ¬ r < 0) : c_wf nm (k, p, m, i, r, w, x) := ⟨hp, hm, hr⟩
theorem no_m {k m : Int32} (h : k = 0 ∨ k = 1 ∨ k = 4 ∨ k = 5) : (k = 6 ∨ k = 7 ∨ k = 8) → ∃ q, q < nm ∧ m = nI q := by
  intro z
  rcases h with h | h | h | h <;> subst h <;> rcases z with z | z | z <;> exact absurd z (by decide)
theorem wf_num {z : fn_N} : c_wf nm (s_num z) := wf_of (by decide) (no_m (by decide)) (by decide)
theorem wf_bare {z : Int32} : c_wf nm (s_bare z) := wf_of (by decide) (no_m (by decide)) (by decide)
theorem wf_by (h : s_gd nm σ) (hf : d_fi c < 11) : c_wf nm (s_by c σ) := by
  unfold s_by
  split
  · exact wf_num
  · exact h _ (by omega)
def gdR (nm : Nat) (o : sR) : Prop := match o with
  | .error _ => True
  | .ok q => s_gd nm q.1
theorem gdR_er {f : Int32} : gdR nm (.error f) := trivial
theorem gdR_ok (h : s_gd nm σ) : gdR nm (.ok (σ, ids)) := h
theorem sh_wf {sub : Int32} {p : sC} {x : fn_N} {q : sC × Int32} (h : c_wf nm p) (e : s_sh sub p x ids = some q) : c_wf nm q.1 := by
  unfold s_sh at e
  generalize (if sub = 0 then x.1 else -x.1).toInt32 = v at e
  split at e
  · split at e
    · exact absurd e (by simp)
    split at e
    · exact absurd e (by simp)
    split at e
    · exact absurd e (by simp)
    rename_i g1 g2 g3
    split at e
    · rename_i g4
      rw [← Option.some.inj e]
      rw [Int32.lt_iff_toInt_lt, show (-65535 : Int32).toInt = -65535 from rfl] at g3
      rw [Int32.le_iff_toInt_le, show (65535 : Int32).toInt = 65535 from rfl] at g4
      exact ⟨⟨by show -65535 ≤ (cPl p + _).toInt; omega, g4⟩, h.2.1, h.2.2⟩
    · exact absurd e (by simp)
  · split at e
    · split at e
      · exact absurd e (by simp)
      split at e
      · exact absurd e (by simp)
      split at e
      · exact absurd e (by simp)
      split at e
      · rw [← Option.some.inj e]
        exact ⟨h.1, h.2.1, show ¬ (0 : Int32) < 0 by decide⟩
      · rw [← Option.some.inj e]
        exact ⟨h.1, h.2.1, h.2.2⟩
    · exact absurd e (by simp)
theorem mv_gd (h : s_gd nm σ) {i : Nat} {sub : Int32} {p : sC} {x : fn_N} (hp : c_wf nm p) : gdR nm (s_mv σ i (s_sh sub p x ids)) := by
  cases e : s_sh sub p x ids with
  | none => exact trivial
  | some q => exact gd_up h (sh_wf hp e)
theorem arith_gd (h : s_gd nm σ) (ht : d_ti c < 11) (hf : d_fi c < 11) : gdR nm (s_arith c σ ids) := by
  have ht2 := h (d_ti c) (by omega)
  have hb := wf_by (c := c) h hf
  unfold s_arith
  generalize s_by c σ = X at hb ⊢
  repeat' split
  all_goals first | exact gdR_er | exact mv_gd h ht2 | exact mv_gd h hb | exact gdR_ok (gd_up h hb) | exact gdR_ok (gd_up h wf_num)
theorem store_gd (h : s_gd nm σ) {pl : Int32} {x : sC} (hx : c_wf nm x) : s_gd nm (s_store c pl x σ) := by
  unfold s_store
  split
  · exact gd_up h hx
  · exact gd_up h wf_bare
theorem wf_pk {k : Int32} (hk : k = 4 ∨ k = 5) : c_wf nm (k, 0, 0, 0, 0, 0, fn_ex 0) := wf_of (by decide) (no_m (Or.inr (Or.inr hk))) (by decide)
theorem rd_gd (h : s_gd nm σ) {k pl : Int32} : gdR nm (s_rd c k pl σ ids) := by
  unfold s_rd
  refine gd_up h ?_
  split
  · split
    · exact wf_pk (Or.inl rfl)
    · exact wf_pk (Or.inr rfl)
  · exact wf_num
theorem mem_gd (h : s_gd nm σ) (ht : d_ti c < 11) (hf : d_fi c < 11) : gdR nm (s_mem c vb σ ids) := by
  obtain ⟨b, hb⟩ : ∃ b, b = (if d_fam c = 2 then d_fi c else d_ti c) := ⟨_, rfl⟩
  have hb11 : b < 11 := by rw [hb]; split <;> assumption
  have hw := gd_wf h
  unfold s_mem
  rw [← hb]
  by_cases g1 : c_ptr (σ b)
  · rw [if_neg (b1_n0 g1)]
    by_cases g2 : s_isp c vb (σ b) (cPl (σ b) + d_off c)
    · rw [if_neg (b1_n0 g2)]
      have bnd : cK (σ b) = 3 → sl (cPl (σ b) + d_off c) < 75 := by
        intro k3
        obtain ⟨q1, q2⟩ := (hw b (by omega)).1
        obtain ⟨q3, q4⟩ := off_b c
        have e := add_b (a := cPl (σ b)) (b := d_off c) (by omega) (by omega) (by omega) (by omega)
        obtain ⟨q5, q6⟩ := isp_st (by omega) (by omega) g2 k3
        exact sl_75 q5 q6
      by_cases f2 : d_fam c = 2
      · rw [if_pos f2] at hb
        subst hb
        rw [if_pos f2]
        unfold s_load
        split
        · rename_i k3
          split
          · exact gd_up h (h _ (bnd k3))
          · split
            · exact rd_gd h
            · exact trivial
        · exact rd_gd h
      · rw [if_neg f2] at hb
        subst hb
        rw [if_neg f2]
        have hbx := wf_by (c := c) h hf
        have t1 : s_gd nm (s_store c (cPl (σ (d_ti c)) + d_off c) (s_num fn_any) σ) := store_gd h wf_num
        have t2 : s_gd nm (s_store c (cPl (σ (d_ti c)) + d_off c) (s_by c σ) σ) := store_gd h hbx
        unfold s_put s_addTo
        generalize s_store c (cPl (σ (d_ti c)) + d_off c) (s_by c σ) σ = A at t2 ⊢
        generalize s_store c (cPl (σ (d_ti c)) + d_off c) (s_num fn_any) σ = B at t1 ⊢
        repeat' split
        all_goals first | exact gdR_er | exact gdR_ok h | exact gdR_ok t1 | exact gdR_ok t2
    · rw [if_pos (b1_f g2)]; exact trivial
  · rw [if_pos (b1_f g1)]; exact trivial
theorem help_gd (h : s_gd nm σ) : gdR nm (s_help c kb vb σ ids) := by
  unfold s_help
  by_cases g : s_far c kb vb σ = 0
  · rw [if_pos g]
    have hl : s_gd nm (s_lost σ) := by
      intro i hi
      unfold s_lost
      split
      · exact wf_bare
      · exact h i hi
    unfold s_give
    by_cases f1 : d_field c = 1
    · rw [if_pos f1]
      have k6 := far_1 f1 g
      obtain ⟨m, hm, em⟩ := (h 1 (by decide)).2.1 (Or.inl k6)
      exact gd_up hl (wf_of (by decide) (fun _ => ⟨m, hm, em⟩) (by decide))
    · rw [if_neg f1]
      repeat' split
      all_goals exact gd_up hl wf_num
  · rw [if_neg g]; exact trivial
theorem do_gd (h : s_gd nm σ) (ht : d_ti c < 11) (hf : d_fi c < 11) (hm : d_fam c = 1 → ¬ d_from c = 0 → ∃ m, m < nm ∧ d_field c = nI m) : gdR nm (s_do c w kb vb σ ids) := by
  unfold s_do
  by_cases f1 : d_fam c = 1
  · rw [if_pos f1]
    refine gd_up h ?_
    by_cases g : d_from c = 0
    · rw [if_pos g]; exact wf_num
    · rw [if_neg g]
      obtain ⟨m, h1, h2⟩ := hm f1 g
      exact (wf_of (by decide) (fun _ => ⟨m, h1, h2⟩) (by decide))
  rw [if_neg f1]
  by_cases f6 : d_fam c = 6
  · rw [if_pos f6]; exact arith_gd h ht hf
  rw [if_neg f6]
  by_cases f7 : d_fam c = 7
  · rw [if_pos f7]; exact h
  rw [if_neg f7]
  by_cases f9 : d_fam c = 9
  · rw [if_pos f9]; exact help_gd h
  rw [if_neg f9]
  by_cases f10 : d_fam c = 10
  · rw [if_pos f10]
    split
    · exact h
    · exact trivial
  rw [if_neg f10]
  exact mem_gd h ht hf
def gdO (nm : Nat) (o : Option sT) : Prop := ∀ τ, o = some τ → s_gd nm τ
def gdG (nm : Nat) (o : sG) : Prop := match o with
  | .error _ => True
  | .ok q => gdO nm q.1 ∧ gdO nm q.2
theorem gdO_s (h : s_gd nm σ) : gdO nm (some σ) := fun τ e => by rw [← Option.some.inj e]; exact h
theorem dec_gd (h : s_gd nm σ) {id k : Int32} (hk : k = 1 ∨ k = 7) : s_gd nm (s_dec id k σ) := by
  intro i hi
  unfold s_dec s_dec1
  split
  · rename_i g
    obtain ⟨m, h1, h2⟩ := (h i hi).2.1 (Or.inr (Or.inr g.1))
    rcases hk with q | q
    · subst q
      rw [show cn 1 0 (cM (σ i)) 0 0 0 (fn_ex 0) = s_num (fn_ex 0) by unfold cn; simp]
      exact wf_num
    · subst q
      rw [cn7]
      exact (wf_of (by decide) (fun _ => ⟨m, h1, h2⟩) (by decide))
  · exact h i hi
theorem room_gd (h : s_gd nm σ) {id r : Int32} : s_gd nm (s_room id r σ) := by
  intro i hi
  unfold s_room s_room1
  split
  · refine ⟨(h i hi).1, (h i hi).2.1, ?_⟩
    have := (h i hi).2.2
    show ¬ jimax (cR (σ i)) r < 0
    unfold jimax
    split
    · rename_i g
      rw [Int32.lt_iff_toInt_lt] at g this ⊢
      omega
    · exact this
  · exact h i hi
theorem tn_gd (h : s_gd nm σ) {q : fn_N × fn_N} : s_gd nm (s_tn c σ q) := by
  unfold s_tn
  split
  · exact gd_up h wf_num
  · exact gd_up (gd_up h wf_num) wf_num
theorem map_gd (h : s_gd nm σ) {o : Option (fn_N × fn_N)} : gdO nm (o.map (s_tn c σ)) := by
  intro τ e
  cases o with
  | none => exact absurd e (by simp)
  | some q => rw [← show s_tn c σ q = τ from Option.some.inj e]; exact tn_gd h
theorem end_gd (h : s_gd nm σ) {p : sC} {r : Int32} : gdG nm (s_end p r σ) := by
  unfold s_end
  repeat' split
  all_goals first | exact trivial | exact ⟨gdO_s (room_gd h), gdO_s (room_gd h)⟩
theorem rel_gd (h : s_gd nm σ) : gdG nm (s_rel c σ) := by
  unfold s_rel
  by_cases o0 : d_opn c = 0
  · simp only [if_pos o0]
    repeat' split
    all_goals first | exact trivial | exact end_gd h | exact ⟨gdO_s h, gdO_s h⟩ | exact ⟨gdO_s (dec_gd h (Or.inl rfl)), gdO_s (dec_gd h (Or.inr rfl))⟩ | exact ⟨map_gd h, map_gd h⟩
  · simp only [if_neg o0]
    repeat' split
    all_goals first | exact trivial | exact end_gd h | exact ⟨gdO_s h, gdO_s h⟩ | exact ⟨gdO_s (dec_gd h (Or.inr rfl)), gdO_s (dec_gd h (Or.inl rfl))⟩ | exact ⟨map_gd h, map_gd h⟩
end CO
