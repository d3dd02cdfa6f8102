/-! PURE: the form of a program. -/
def f_sec (p : Nat → Int64) : Nat → Prop
  | 0 => False
  | t + 1 => ¬ f_sec p t ∧ d_fam (p t) = 1
noncomputable def f_p1 (p : Nat → Int64) (n : Nat) (m : Int32) : Nat → Nat → Nat → Int32 × Nat
  | 0, _, last => (0, last)
  | fu + 1, y, last => if n ≤ y then (0, last) else if f_flt (p y) (p (y + 1)) (y + 1 < n) m = 0 then f_p1 p n m fu (if d_fam (p y) = 1 then y + 2 else y + 1) y else (f_flt (p y) (p (y + 1)) (y + 1 < n) m, y)
abbrev f_to (p : Nat → Int64) (s : Nat) : Int32 := nI s + 1 + d_off (p s)
def f_tok (p : Nat → Int64) (n s : Nat) : Prop := ¬ f_to p s < 0 ∧ ¬ nI n ≤ f_to p s ∧ ¬ f_sec p (f_to p s).toNatClampNeg
def f_jmp (p : Nat → Int64) (s : Nat) : Prop := ¬ f_sec p s ∧ (d_fam (p s) = 7 ∨ d_fam (p s) = 8)
def f_mk (p : Nat → Int64) (y t : Nat) : Prop := ∃ s, s < y ∧ f_jmp p s ∧ (f_to p s).toNatClampNeg = t
noncomputable def f_p2 (p : Nat → Int64) (n : Nat) : Nat → Nat → Int32 × Nat
  | 0, _ => (0, 0)
  | fu + 1, y => if n ≤ y then (0, 0) else ic (f_jmp p y ∧ ¬ f_tok p n y) (5, y) (f_p2 p n fu (y + 1))
noncomputable def f_form (p : Nat → Int64) (n : Nat) (m : Int32) : Int32 × Nat :=
  if (f_p1 p n m (n + 1) 0 0).1 = 0 then (if (f_p2 p n (n + 1) 0).1 = 0 then (if d_fam (p (f_p1 p n m (n + 1) 0 0).2) = 10 ∨ d_fam (p (f_p1 p n m (n + 1) 0 0).2) = 7 then (0, (f_p1 p n m (n + 1) 0 0).2) else (6, (f_p1 p n m (n + 1) 0 0).2)) else f_p2 p n (n + 1) 0) else f_p1 p n m (n + 1) 0 0
section FF
variable {p : Nat → Int64} {n nm y last fu : Nat} {m : Int32}
theorem sec_s {t : Nat} : f_sec p (t + 1) ↔ (¬ f_sec p t ∧ d_fam (p t) = 1) := Iff.rfl
theorem sec_2 (h : ¬ f_sec p y) (g : d_fam (p y) = 1) : f_sec p (y + 1) ∧ ¬ f_sec p (y + 2) := ⟨⟨h, g⟩, fun z => z.1 ⟨h, g⟩⟩
theorem sec_1 (g : ¬ d_fam (p y) = 1) : ¬ f_sec p (y + 1) := fun z => g z.2
theorem flt_1 {l : Prop} {c w : Int64} (h : f_flt c w l m = 0) : f_shp c w l := by
  unfold f_flt at h
  by_cases g : f_shp c w l
  · exact g
  · rw [ic_f g] at h; exact absurd h (by decide)
theorem shp_l {l : Prop} {c w : Int64} (h : f_shp c w l) (g : d_fam c = 1) : l := by
  unfold f_shp at h
  rw [if_pos g] at h
  exact h.2.2.1
/-- where the first pass ends well -/
theorem p1_ok : ∀ (fu y last : Nat), y ≤ n → n < fu + y → ¬ f_sec p y → (f_p1 p n m fu y last).1 = 0 → (∀ t, y ≤ t → t < n → ¬ f_sec p t → f_flt (p t) (p (t + 1)) (t + 1 < n) m = 0) ∧ ((y < n → (f_p1 p n m fu y last).2 < n ∧ y ≤ (f_p1 p n m fu y last).2 ∧ ¬ f_sec p (f_p1 p n m fu y last).2 ∧ ∀ t, (f_p1 p n m fu y last).2 < t → t < n → f_sec p t) ∧ (y = n → (f_p1 p n m fu y last).2 = last)) := by
  intro fu
  induction fu with
  | zero => intro y last h1 h2; omega
  | succ fu ih =>
    intro y last h1 h2 h3 h4
    rw [f_p1] at h4 ⊢
    by_cases e : n ≤ y
    · rw [if_pos e]
      exact ⟨fun t a b => by omega, fun z => by omega, fun _ => rfl⟩
    rw [if_neg e] at h4 ⊢
    by_cases f : f_flt (p y) (p (y + 1)) (y + 1 < n) m = 0
    · rw [if_pos f] at h4 ⊢
      by_cases g : d_fam (p y) = 1
      · rw [if_pos g] at h4 ⊢
        have lt : y + 1 < n := shp_l (flt_1 f) g
        obtain ⟨s1, s2⟩ := sec_2 h3 g
        obtain ⟨i1, i2, i3⟩ := ih (y + 2) y (by omega) (by omega) s2 h4
        refine ⟨fun t a b c => ?_, fun _ => ?_, fun z => by omega⟩
        · by_cases e1 : t = y
          · rw [e1]; exact f
          · by_cases e2 : t = y + 1
            · rw [e2] at c; exact absurd s1 c
            · exact i1 t (by omega) b c
        · by_cases e2 : y + 2 < n
          · obtain ⟨j1, j2, j3, j4⟩ := i2 e2
            exact ⟨j1, by omega, j3, j4⟩
          · have e3 := i3 (by omega)
            rw [e3]
            refine ⟨by omega, Nat.le_refl _, h3, fun t a b => ?_⟩
            rw [show t = y + 1 by omega]
            exact s1
      · rw [if_neg g] at h4 ⊢
        obtain ⟨i1, i2, i3⟩ := ih (y + 1) y (by omega) (by omega) (sec_1 g) h4
        refine ⟨fun t a b c => ?_, fun _ => ?_, fun z => by omega⟩
        · by_cases e1 : t = y
          · rw [e1]; exact f
          · exact i1 t (by omega) b c
        · by_cases e2 : y + 1 < n
          · obtain ⟨j1, j2, j3, j4⟩ := i2 e2
            exact ⟨j1, by omega, j3, j4⟩
          · have e3 := i3 (by omega)
            rw [e3]
            exact ⟨by omega, Nat.le_refl _, h3, fun t a b => by omega⟩
    · rw [if_neg f] at h4
      exact absurd h4 f
theorem p2_ok : ∀ (fu y : Nat), n < fu + y → (f_p2 p n fu y).1 = 0 → ∀ t, y ≤ t → t < n → f_jmp p t → f_tok p n t := by
  intro fu
  induction fu with
  | zero => intro y h1 _ t a b; omega
  | succ fu ih =>
    intro y h1 h2 t a b j
    rw [f_p2] at h2
    rw [if_neg (by omega)] at h2
    by_cases g : f_jmp p y ∧ ¬ f_tok p n y
    · rw [ic_t g] at h2; exact absurd h2 (by decide : ¬ (5 : Int32) = 0)
    · rw [ic_f g] at h2
      by_cases e : t = y
      · rw [e] at j ⊢
        exact Classical.byContradiction (fun z => g ⟨j, z⟩)
      · exact ih (y + 1) (by omega) h2 t (by omega) b j
theorem flt_2 {l : Prop} {c w : Int64} (h : f_flt c w l m = 0) : ¬ 10 < d_to c ∧ ¬ 10 < d_from c ∧ (d_fam c = 9 → ¬ d_field c < 1 ∧ d_field c ≤ 6) ∧ (d_fam c = 1 → d_from c = 1 → ¬ d_field c < 0 ∧ d_field c < m) ∧ ((d_fam c = 1 ∨ d_fam c = 2 ∨ d_fam c = 6) → ¬ d_to c = 10) ∧ ¬ (d_fam c = 6 ∧ d_rf c = 0 ∧ f_wr c) := by
  have s := flt_1 h
  unfold f_flt at h
  rw [ic_t s] at h
  by_cases a : (10 < d_to c ∨ 10 < d_from c ∨ ((d_fam c = 1 ∨ d_fam c = 2 ∨ d_fam c = 6) ∧ d_to c = 10))
  · rw [ic_t a] at h; exact absurd h (by decide)
  rw [ic_f a] at h
  by_cases b : (d_fam c = 6 ∧ d_rf c = 0 ∧ f_wr c)
  · rw [ic_t b] at h; exact absurd h (by decide)
  rw [ic_f b] at h
  by_cases d : (d_fam c = 9 ∧ (d_field c < 1 ∨ ¬ d_field c ≤ 6))
  · rw [ic_t d] at h; exact absurd h (by decide)
  rw [ic_f d] at h
  by_cases e : (d_fam c = 1 ∧ d_from c = 1 ∧ (d_field c < 0 ∨ ¬ d_field c < m))
  · rw [ic_t e] at h; exact absurd h (by decide)
  refine ⟨fun z => a (Or.inl z), fun z => a (Or.inr (Or.inl z)), fun f => ⟨fun z => d ⟨f, Or.inl z⟩, ?_⟩, fun f g => ⟨fun z => e ⟨f, g, Or.inl z⟩, ?_⟩, fun f z => a (Or.inr (Or.inr ⟨f, z⟩)), b⟩
  · exact Classical.byContradiction (fun z => d ⟨f, Or.inr z⟩)
  · exact Classical.byContradiction (fun z => e ⟨f, g, Or.inr z⟩)
theorem nib_11 {x : Int32} (hx : ∃ k, k < 16 ∧ x = nI k) (h : ¬ 10 < x) : x.toNatClampNeg < 11 := by
  obtain ⟨k, hk, e⟩ := hx
  rw [e] at h ⊢
  rw [nI_tn (by omega)]
  have : ¬ 10 < k := fun z => h ((nI_lti (a := 10) (by decide) (by omega)).mpr z)
  omega
theorem tc_nI {x : Int32} (h : ¬ x < 0) : x = nI x.toNatClampNeg := by
  apply Int32.toInt_inj.mp
  rw [Int32.lt_iff_toInt_lt, show (0 : Int32).toInt = 0 from rfl] at h
  have e : x.toNatClampNeg = x.toInt.toNat := rfl
  have b : x.toInt < 2147483648 := Int32.toInt_lt x
  rw [nI_int (by rw [e]; omega), e]
  omega
theorem form_pF (h0 : 0 < n) (hn : n ≤ 2000) (hm : nm ≤ 4) (h : (f_form p n (nI nm)).1 = 0) : pF p n (f_sec p) nm := by
  unfold f_form at h
  by_cases h1 : (f_p1 p n (nI nm) (n + 1) 0 0).1 = 0
  · rw [if_pos h1] at h
    by_cases h2 : (f_p2 p n (n + 1) 0).1 = 0
    · rw [if_pos h2] at h
      obtain ⟨a1, a2, _⟩ := p1_ok (n + 1) 0 0 (by omega) (by omega) (fun z => z) h1
      obtain ⟨l1, l2, l3, l4⟩ := a2 h0
      have b1' := p2_ok (n + 1) 0 (by omega) h2
      generalize (f_p1 p n (nI nm) (n + 1) 0 0).2 = L at h l1 l2 l3 l4
      have hL : d_fam (p L) = 10 ∨ d_fam (p L) = 7 := by
        by_cases g : d_fam (p L) = 10 ∨ d_fam (p L) = 7
        · exact g
        · rw [if_neg g] at h; exact absurd h (by decide : ¬ (6 : Int32) = 0)
      refine ⟨hn, h0, fun z => z, fun s hs hsec => ?_⟩
      have f := a1 s (by omega) hs hsec
      have sh := flt_1 f
      obtain ⟨g1, g2, g3, g4, g5, g6⟩ := flt_2 f
      have nl : s + 1 = n → s = L := by
        intro h1
        by_cases e : s = L
        · exact e
        · exfalso
          rcases Nat.lt_or_ge L s with q | q
          · exact hsec (l4 s q hs)
          · omega
      refine ⟨?_, nib_11 (and_15 _) g1, nib_11 (and_15 _) g2, fun f1 => ?_, fun f78 => ?_, fun n1 n7 n10 => ?_, fun f9 => ?_⟩
      · intro z
        unfold f_shp at sh
        rw [z] at sh
        exact sh
      · have lt : s + 1 < n := shp_l sh f1
        obtain ⟨s1, s2⟩ := sec_2 hsec f1
        have e2 : s + 2 < n := by
          rcases Nat.lt_or_ge (s + 2) n with q | q
          · exact q
          · exfalso
            rcases Nat.lt_or_ge L s with r | r
            · exact hsec (l4 s r hs)
            · by_cases e : L = s
              · rw [e] at hL
                rcases hL with z | z <;> rw [f1] at z <;> exact absurd z (by decide)
              · have e3 : L = s + 1 := by omega
                rw [e3] at l3
                exact l3 s1
        refine ⟨e2, s2, ?_, fun nf => ?_⟩
        · unfold f_shp at sh
          rw [if_pos f1] at sh
          obtain ⟨k, hk, e⟩ := d_from16 (p s)
          have : ¬ 1 < k := fun z => sh.2.1 (by rw [e]; exact (nI_lti (a := 1) (by decide) (by omega)).mpr z)
          rw [e]
          rcases Nat.lt_or_ge k 1 with q | q
          · exact Or.inl (by rw [show k = 0 by omega]; rfl)
          · exact Or.inr (by rw [show k = 1 by omega]; rfl)
        · have f01 : d_from (p s) = 1 := by
            unfold f_shp at sh
            rw [if_pos f1] at sh
            obtain ⟨k, hk, e⟩ := d_from16 (p s)
            have : ¬ 1 < k := fun z => sh.2.1 (by rw [e]; exact (nI_lti (a := 1) (by decide) (by omega)).mpr z)
            rw [e] at nf ⊢
            rcases Nat.lt_or_ge k 1 with q | q
            · exact absurd (by rw [show k = 0 by omega]; rfl) nf
            · rw [show k = 1 by omega]; rfl
          obtain ⟨q1, q2⟩ := g4 f1 f01
          refine ⟨(d_field (p s)).toNatClampNeg, ?_, tc_nI q1⟩
          rw [tc_nI q1] at q2
          have b : (d_field (p s)).toNatClampNeg < 2147483648 := by
            have e : (d_field (p s)).toNatClampNeg = (d_field (p s)).toInt.toNat := rfl
            have := Int32.toInt_lt (d_field (p s))
            omega
          exact (nI_lti b (by omega)).mp q2
      · obtain ⟨t1, t2, t3⟩ := b1' s (by omega) hs ⟨hsec, f78⟩
        have e := tc_nI t1
        refine ⟨?_, t3, e⟩
        have b : (f_to p s).toNatClampNeg < 2147483648 := by
          have e : (f_to p s).toNatClampNeg = (f_to p s).toInt.toNat := rfl
          have := Int32.toInt_lt (f_to p s)
          omega
        rw [e] at t2
        show (f_to p s).toNatClampNeg < n
        have : ¬ n ≤ (f_to p s).toNatClampNeg := fun z => t2 ((nI_lei (by omega) b).mpr z)
        omega
      · refine ⟨?_, sec_1 n1⟩
        rcases Nat.lt_or_ge (s + 1) n with q | q
        · exact q
        · exfalso
          have e := nl (by omega)
          rw [← e] at hL
          rcases hL with z | z
          · exact n10 z
          · exact n7 z
      · obtain ⟨q1, q2⟩ := g3 f9
        have t := tc_nI (x := d_field (p s)) (fun z => q1 (by
          rw [Int32.lt_iff_toInt_lt] at z ⊢
          rw [show (0 : Int32).toInt = 0 from rfl] at z
          rw [show (1 : Int32).toInt = 1 from rfl]
          omega))
        rw [Int32.le_iff_toInt_le, show (6 : Int32).toInt = 6 from rfl] at q2
        rw [Int32.lt_iff_toInt_lt, show (1 : Int32).toInt = 1 from rfl] at q1
        have e : (d_field (p s)).toNatClampNeg = (d_field (p s)).toInt.toNat := rfl
        have : (d_field (p s)).toNatClampNeg = 1 ∨ (d_field (p s)).toNatClampNeg = 2 ∨ (d_field (p s)).toNatClampNeg = 3 ∨ (d_field (p s)).toNatClampNeg = 4 ∨ (d_field (p s)).toNatClampNeg = 5 ∨ (d_field (p s)).toNatClampNeg = 6 := by omega
        rw [t]
        rcases this with r | r | r | r | r | r <;> rw [r]
        · exact Or.inl rfl
        · exact Or.inr (Or.inl rfl)
        · exact Or.inr (Or.inr (Or.inl rfl))
        · exact Or.inr (Or.inr (Or.inr (Or.inl rfl)))
        · exact Or.inr (Or.inr (Or.inr (Or.inr (Or.inl rfl))))
        · exact Or.inr (Or.inr (Or.inr (Or.inr (Or.inr rfl))))
    · rw [if_neg h2] at h; exact absurd h h2
  · rw [if_neg h1] at h; exact absurd h h1
end FF
