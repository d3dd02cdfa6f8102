/-! PURE: maps: finding, what update and delete do. -/
def uD (nm : Nat) (tb : Nat → Prop) (kb : Int32 → Int32) (en : Nat → Nat) (U : tyU) : Prop := ∀ m, m < nm → (¬ tb m → ∀ i, i < en m → uH U m i) ∧ (tb m → ∀ i j, i < en m → j < en m → uH U m i → uH U m j → (∀ b, b < (kb (nI m)).toNatClampNeg → uK U m i b = uK U m j b) → i = j)
section HMP
variable {U : tyU} {nm m i : Nat} {tb : Nat → Prop} {kb vb : Int32 → Int32} {en : Nat → Nat} {H : Nat → Nat → Int32} {K V : Nat → Nat → Nat → Int32} {key val : Nat → Int32}
theorem fst_c {P Q : Nat → Prop} : ∀ (n y : Nat), (∀ i, y ≤ i → i < y + n → (P i ↔ Q i)) → x_fst P n y = x_fst Q n y := by
  intro n
  induction n with
  | zero => intro y _; rfl
  | succ n ih =>
    intro y h
    rw [x_fst, x_fst, ic_c (h y (by omega) (by omega)), ih (y + 1) (fun i h1 h2 => h i (by omega) (by omega))]
theorem fst_no {P : Nat → Prop} : ∀ (n y : Nat), x_fst P n y = none → ∀ i, y ≤ i → i < y + n → ¬ P i := by
  intro n
  induction n with
  | zero => intro y _ i h1 h2; omega
  | succ n ih =>
    intro y h i h1 h2
    rw [x_fst] at h
    by_cases e : P y
    · rw [ic_t e] at h; cases h
    · rw [ic_f e] at h
      by_cases ey : i = y
      · rw [ey]; exact e
      · exact ih (y + 1) h i (by omega) (by omega)
theorem fnd_c (hm : mst nm tb kb vb en U H K V) (hn : m < nm) (ht : tb m) : x_fst (fun i => ¬ H m i = 0 ∧ ∀ b, b < (kb (nI m)).toNatClampNeg → K m i b = key b) (en m) 0 = u_find tb kb en U m key := by
  unfold u_find
  rw [ic_t ht]
  refine fst_c _ _ (fun i _ hi => ?_)
  obtain ⟨g1, g2, g3⟩ := hm m hn
  have hi : i < en m := by omega
  constructor
  · rintro ⟨h1, h2⟩
    have hu : uH U m i := Classical.not_not.mp (fun q => h1 ((g1 i hi).mpr q))
    exact ⟨hu, fun b hb => by rw [← g3 ht i hi hu b hb]; exact h2 b hb⟩
  · rintro ⟨h1, h2⟩
    exact ⟨fun q => (g1 i hi).mp q h1, fun b hb => by rw [g3 ht i hi h1 b hb]; exact h2 b hb⟩
theorem free_c (hm : mst nm tb kb vb en U H K V) (hn : m < nm) : x_fst (fun i => H m i = 0) (en m) 0 = x_fst (fun i => ¬ uH U m i) (en m) 0 := fst_c _ _ (fun i _ hi => (hm m hn).1 i (by omega))
theorem mst_val (hm : mst nm tb kb vb en U H K V) (f : Nat → Int32) : mst nm tb kb vb en (uV_s U m i f) H K (fup V m (fup (V m) i f)) := by
  intro l hl
  obtain ⟨g1, g2, g3⟩ := hm l hl
  refine ⟨g1, fun a ha b hb => ?_, g3⟩
  show fup V m (fup (V m) i f) l a b = fup (uV U) m (fup (uV U m) i f) l a b
  unfold fup
  by_cases em : l = m
  · rw [if_pos em, if_pos em]
    by_cases ei : a = i
    · rw [if_pos ei, if_pos ei]
    · rw [if_neg ei, if_neg ei, ← em]
      exact g2 a ha b hb
  · rw [if_neg em, if_neg em]
    exact g2 a ha b hb
/-- only bytes that are of the value matter -/
theorem mst_V {V2 : Nat → Nat → Nat → Int32} (hm : mst nm tb kb vb en U H K V) (h : ∀ m, m < nm → ∀ i, i < en m → ∀ b, b < (vb (nI m)).toNatClampNeg → V2 m i b = V m i b) : mst nm tb kb vb en U H K V2 := fun l hl => ⟨(hm l hl).1, fun a ha b hb => (h l hl a ha b hb).trans ((hm l hl).2.1 a ha b hb), (hm l hl).2.2⟩
theorem mst_new (hm : mst nm tb kb vb en U H K V) (n : Nat) (hn : n = (kb (nI m)).toNatClampNeg) {x : Int32} (hx : ¬ x = 0) {k2 : Nat → Int32} (hk : ∀ b, b < n → k2 b = key b) : mst nm tb kb vb en (u_key (u_here U m i True) m i key n) (fup H m (fup (H m) i x)) (fup K m (fup (K m) i k2)) V := by
  intro l hl
  obtain ⟨g1, g2, g3⟩ := hm l hl
  refine ⟨fun a ha => ?_, g2, fun ht a ha hu b hb => ?_⟩
  · show fup H m (fup (H m) i x) l a = 0 ↔ ¬ fup (uH U) m (fup (uH U m) i True) l a
    unfold fup
    by_cases em : l = m
    · rw [if_pos em, if_pos em]
      by_cases ei : a = i
      · rw [if_pos ei, if_pos ei]
        exact ⟨fun z => absurd z hx, fun z => absurd trivial z⟩
      · rw [if_neg ei, if_neg ei, ← em]
        exact g1 a ha
    · rw [if_neg em, if_neg em]
      exact g1 a ha
  · replace hu : fup (uH U) m (fup (uH U m) i True) l a := hu
    show fup K m (fup (K m) i k2) l a b = fup (uK U) m (fup (uK U m) i (fun b => if b < n then key b else uK U m i b)) l a b
    unfold fup at hu ⊢
    by_cases em : l = m
    · rw [if_pos em] at hu
      rw [if_pos em, if_pos em]
      by_cases ei : a = i
      · rw [if_pos ei, if_pos ei]
        rw [em] at hb
        rw [hk b (by omega)]
        exact (if_pos (by omega)).symm
      · rw [if_neg ei] at hu
        rw [if_neg ei, if_neg ei]
        rw [← em] at hu ⊢
        exact g3 ht a ha hu b hb
    · rw [if_neg em] at hu
      rw [if_neg em, if_neg em]
      exact g3 ht a ha hu b hb
theorem mst_gone (hm : mst nm tb kb vb en U H K V) : mst nm tb kb vb en (u_here U m i False) (fup H m (fup (H m) i 0)) K V := by
  intro l hl
  obtain ⟨g1, g2, g3⟩ := hm l hl
  refine ⟨fun a ha => ?_, g2, fun ht a ha hu b hb => ?_⟩
  · show fup H m (fup (H m) i 0) l a = 0 ↔ ¬ fup (uH U) m (fup (uH U m) i False) l a
    unfold fup
    by_cases em : l = m
    · rw [if_pos em, if_pos em]
      by_cases ei : a = i
      · rw [if_pos ei, if_pos ei]
        exact ⟨fun _ z => z, fun _ => rfl⟩
      · rw [if_neg ei, if_neg ei, ← em]
        exact g1 a ha
    · rw [if_neg em, if_neg em]
      exact g1 a ha
  · replace hu : fup (uH U) m (fup (uH U m) i False) l a := hu
    refine g3 ht a ha ?_ b hb
    unfold fup at hu
    by_cases em : l = m
    · rw [if_pos em] at hu
      by_cases ei : a = i
      · rw [if_pos ei] at hu
        exact hu.elim
      · rw [if_neg ei] at hu
        rw [em]
        exact hu
    · rw [if_neg em] at hu
      exact hu
/-- the reference notes a key again that it found -/
theorem mst_again (hm : mst nm tb kb vb en U H K V) (hn : m < nm) (hi : i < en m) (hu : uH U m i) (hk : tb m → ∀ b, b < (kb (nI m)).toNatClampNeg → uK U m i b = key b) {x : Int32} (hx : ¬ x = 0) {k2 : Nat → Int32} (hk2 : ∀ b, b < (kb (nI m)).toNatClampNeg → k2 b = key b) : mst nm tb kb vb en U (fup H m (fup (H m) i x)) (fup K m (fup (K m) i k2)) V := by
  intro l hl
  obtain ⟨g1, g2, g3⟩ := hm l hl
  refine ⟨fun a ha => ?_, g2, fun ht a ha hu2 b hb => ?_⟩
  · unfold fup
    by_cases em : l = m
    · rw [if_pos em]
      by_cases ei : a = i
      · rw [if_pos ei, em, ei]
        exact ⟨fun z => absurd z hx, fun z => absurd hu z⟩
      · rw [if_neg ei, ← em]
        exact g1 a ha
    · rw [if_neg em]
      exact g1 a ha
  · unfold fup
    by_cases em : l = m
    · rw [if_pos em]
      by_cases ei : a = i
      · rw [if_pos ei]
        rw [em] at hb ht ⊢
        rw [ei, hk2 b hb, hk ht b hb]
      · rw [if_neg ei, ← em]
        exact g3 ht a ha hu2 b hb
    · rw [if_neg em]
      exact g3 ht a ha hu2 b hb
theorem uD_new (h : uD nm tb kb en U) (ht : tb m) (hf : u_find tb kb en U m key = none) : uD nm tb kb en (u_key (u_here U m i True) m i key (kb (nI m)).toNatClampNeg) := by
  unfold u_find at hf
  rw [ic_t ht] at hf
  have no := fst_no _ _ hf
  intro l hl
  obtain ⟨g1, g2⟩ := h l hl
  by_cases em : l = m
  · refine ⟨fun z => absurd (by rw [em]; exact ht) z, fun _ a b ha hb ua ub e => ?_⟩
    replace ua : fup (uH U) m (fup (uH U m) i True) l a := ua
    replace ub : fup (uH U) m (fup (uH U m) i True) l b := ub
    replace e : ∀ y, y < (kb (nI l)).toNatClampNeg → fup (uK U) m (fup (uK U m) i (fun b => if b < (kb (nI m)).toNatClampNeg then key b else uK U m i b)) l a y = fup (uK U) m (fup (uK U m) i (fun b => if b < (kb (nI m)).toNatClampNeg then key b else uK U m i b)) l b y := e
    rw [em] at ua ub e ha hb
    have fm : ∀ {α : Type} {g : Nat → α} {v : α}, fup g m v m = v := fun {α g v} => if_pos rfl
    rw [fm] at ua ub
    rw [fm] at e
    by_cases ea : a = i
    · by_cases eb : b = i
      · rw [ea, eb]
      · exfalso
        have f1 : fup (uH U m) i True b = uH U m b := if_neg eb
        rw [f1] at ub
        refine no b (by omega) (by omega) ⟨ub, fun y hy => ?_⟩
        have := e y hy
        have f2 : fup (uK U m) i (fun b => if b < (kb (nI m)).toNatClampNeg then key b else uK U m i b) b = uK U m b := if_neg eb
        have f3 : fup (uK U m) i (fun b => if b < (kb (nI m)).toNatClampNeg then key b else uK U m i b) a = (fun b => if b < (kb (nI m)).toNatClampNeg then key b else uK U m i b) := if_pos ea
        rw [f2, f3] at this
        rw [← this]
        exact if_pos hy
    · have f1 : fup (uH U m) i True a = uH U m a := if_neg ea
      have f2 : fup (uK U m) i (fun b => if b < (kb (nI m)).toNatClampNeg then key b else uK U m i b) a = uK U m a := if_neg ea
      rw [f1] at ua
      by_cases eb : b = i
      · exfalso
        refine no a (by omega) (by omega) ⟨ua, fun y hy => ?_⟩
        have := e y hy
        have f3 : fup (uK U m) i (fun b => if b < (kb (nI m)).toNatClampNeg then key b else uK U m i b) b = (fun b => if b < (kb (nI m)).toNatClampNeg then key b else uK U m i b) := if_pos eb
        rw [f2, f3] at this
        rw [this]
        exact if_pos hy
      · have f3 : fup (uH U m) i True b = uH U m b := if_neg eb
        have f4 : fup (uK U m) i (fun b => if b < (kb (nI m)).toNatClampNeg then key b else uK U m i b) b = uK U m b := if_neg eb
        rw [f3] at ub
        refine (h m (by rw [← em]; exact hl)).2 ht a b ha hb ua ub (fun y hy => ?_)
        have := e y hy
        rw [f2, f4] at this
        exact this
  · have f1 : uH (u_key (u_here U m i True) m i key (kb (nI m)).toNatClampNeg) l = uH U l := if_neg em
    have f2 : uK (u_key (u_here U m i True) m i key (kb (nI m)).toNatClampNeg) l = uK U l := if_neg em
    rw [f1, f2]
    exact ⟨g1, g2⟩
theorem uD_gone (h : uD nm tb kb en U) (ht : tb m) : uD nm tb kb en (u_here U m i False) := by
  intro l hl
  obtain ⟨g1, g2⟩ := h l hl
  by_cases em : l = m
  · have sub : ∀ a, uH (u_here U m i False) l a → uH U l a := by
      intro a ua
      replace ua : fup (uH U) m (fup (uH U m) i False) l a := ua
      unfold fup at ua
      rw [if_pos em] at ua
      by_cases ei : a = i
      · rw [if_pos ei] at ua; exact ua.elim
      · rw [if_neg ei] at ua; rw [em]; exact ua
    exact ⟨fun z => absurd (by rw [em]; exact ht) z, fun t a b ha hb ua ub e => g2 t a b ha hb (sub a ua) (sub b ub) e⟩
  · have f1 : uH (u_here U m i False) l = uH U l := if_neg em
    rw [f1]
    exact ⟨g1, g2⟩
theorem uD_upd (h : uD nm tb kb en U) : uD nm tb kb en (u_upd tb kb vb en U m key val).2 := by
  unfold u_upd
  cases e : u_find tb kb en U m key with
  | some j => exact h
  | none =>
    dsimp only
    by_cases ht : tb m
    · rw [ic_t ht]
      cases e2 : x_fst (fun i => ¬ uH U m i) (en m) 0 with
      | some j => exact uD_new h ht e
      | none => exact h
    · rw [ic_f ht]
      exact h
theorem uD_del (h : uD nm tb kb en U) : uD nm tb kb en (u_del tb kb en U m key).2 := by
  unfold u_del
  by_cases ht : tb m
  · rw [ic_t ht]
    cases e : u_find tb kb en U m key with
    | some j => exact uD_gone h ht
    | none => exact h
  · rw [ic_f ht]
    exact h
end HMP
