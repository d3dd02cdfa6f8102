/-! PURE: the shorter program runs as the whole one does. -/
section SH
variable {p q : Nat → Int64} {n nm : Nat} {tb : Nat → Prop} {en : Nat → Nat} {kb vb : Int32 → Int32} {F : xF} {σ : sT} {T : tyT} {nu : Int32 → Int64} {mu : Int32 → Prop} {c w : Int64} {d i s : Nat}
theorem lv_o {r : Nat} : ∀ (k j : Nat), (∀ i, j ≤ i → i < j + k → ¬ r = n - 1 - i) → (z_lv p F n (j + k) r ↔ z_lv p F n j r) := by
  intro k
  induction k with
  | zero => intro j _; exact Iff.rfl
  | succ k ih =>
    intro j h
    have e : z_lv p F n (j + (k + 1)) r = z_lv p F n (j + k) r := by
      show fup (z_lv p F n (j + k)) (n - 1 - (j + k)) _ r = _
      exact fup_o (h (j + k) (by omega) (by omega))
    rw [e]
    exact ih j (fun i a b => h i a (by omega))
theorem z_S_iff (hp : pF p n (f_sec p) nm) {r : Nat} (hr : r < n) : z_S p F n r ↔ (z_st p F r ∧ ¬ (z_j p F r ∧ r < z_t p F r ∧ ∀ t, r < t → t < z_t p F r → t < n → ¬ z_S p F n t)) := by
  unfold z_S
  have e1 := lv_o (p := p) (F := F) (n := n) (r := r) (n - (n - r)) (n - r) (fun i a b => by omega)
  rw [show n - r + (n - (n - r)) = n by omega] at e1
  rw [e1]
  have e2 : z_lv p F n (n - 1 - r + 1) r = (z_lv p F n (n - 1 - r) r ∧ ¬ (z_j p F r ∧ r < z_t p F r ∧ ∀ t, r < t → t < z_t p F r → ¬ z_lv p F n (n - 1 - r) t)) := by
    rw [lv_s (show n - 1 - (n - 1 - r) = r by omega), fup_s]
  rw [show n - r = n - 1 - r + 1 by omega, e2]
  have e3 := lv_o (p := p) (F := F) (n := n) (r := r) (n - 1 - r) 0 (fun i a b => by omega)
  rw [Nat.zero_add] at e3
  have e3 : z_lv p F n (n - 1 - r) r ↔ z_st p F r := e3
  rw [e3]
  have e4 : ∀ t, r < t → t < n → (z_lv p F n n t ↔ z_lv p F n (n - 1 - r) t) := by
    intro t a b
    have := lv_o (p := p) (F := F) (n := n) (r := t) (n - (n - 1 - r)) (n - 1 - r) (fun i c d => by omega)
    rw [show n - 1 - r + (n - (n - 1 - r)) = n by omega] at this
    exact this
  refine and_congr Iff.rfl (not_congr ⟨fun z => ⟨z.1, z.2.1, fun t a b c g => z.2.2 t a b ((e4 t a c).mp g)⟩, fun z => ⟨z.1, z.2.1, fun t a b g => ?_⟩⟩)
  by_cases c : t < n
  · exact z.2.2 t a b c ((e4 t a c).mpr g)
  · have := (z_tn hp hr z.1.1 (Or.inl z.1.2)).2.1
    omega
theorem np_s (h : z_S p F n s) : z_np p F n (s + 1) = z_np p F n s + 1 := by
  show z_np p F n s + ic (z_S p F n s) 1 0 = _
  rw [ic_t h]
theorem np_n (h : ¬ z_S p F n s) : z_np p F n (s + 1) = z_np p F n s := by
  show z_np p F n s + ic (z_S p F n s) 1 0 = _
  rw [ic_f h, Nat.add_zero]
theorem np_skip {t : Nat} (h : ∀ r, s ≤ r → r < t → ¬ z_S p F n r) : s ≤ t → z_np p F n t = z_np p F n s := by
  induction t with
  | zero => intro z; rw [show s = 0 by omega]
  | succ t ih =>
    intro z
    by_cases e : s = t + 1
    · rw [e]
    · rw [np_n (h t (by omega) (by omega)), ih (fun r a b => h r a (by omega)) (by omega)]
/-- a jump's new offset -/
theorem zo_tg {a b : Nat} (ha : a < 2001) (hb : b < 2001) : d_tg (z_off c (nI b - nI a - 1)) a = b := by
  unfold d_tg
  rw [zo_off]
  have ea : (nI a).toInt = a := nI_int (by omega)
  have eb : (nI b).toInt = b := nI_int (by omega)
  have e1 : (nI b - nI a - 1).toInt = (b : Int) - a - 1 := by
    rw [Int32.toInt_sub, Int32.toInt_sub, ea, eb, show (1 : Int32).toInt = 1 from rfl, Int.bmod_def, Int.bmod_def]
    repeat' split
    all_goals omega
  have e2 : (nI b - nI a - 1).toInt16.toInt32 = nI b - nI a - 1 := Int32.toInt_inj.mp (by
    rw [Int16.toInt_toInt32, Int32.toInt_toInt16, e1, Int.bmod_def]
    split <;> omega)
  rw [e2]
  have e3 : nI a + 1 + (nI b - nI a - 1) = nI b := Int32.toInt_inj.mp (by
    rw [add_b (by rw [add_b (by omega) (by omega) (by decide) (by decide), ea]; show -1000000 ≤ (a : Int) + 1; omega) (by rw [add_b (by omega) (by omega) (by decide) (by decide), ea]; show (a : Int) + 1 ≤ 1000000; omega) (by omega) (by omega), add_b (by omega) (by omega) (by decide) (by decide), e1, ea, eb, show (1 : Int32).toInt = 1 from rfl]
    omega)
  rw [e3, nI_tn (by omega)]
theorem zo_opn {v : Int32} : d_opn (z_off c v) = d_opn c := by unfold d_opn; rw [zo_op]
theorem zo_fam {v : Int32} : d_fam (z_off c v) = d_fam c := by unfold d_fam; rw [zo_op]
theorem zo_nar {v : Int32} : d_nar (z_off c v) = d_nar c := by unfold d_nar; rw [zo_op]
theorem zo_rt {v : Int32} : d_rt (z_off c v) = d_rt c := by unfold d_rt; rw [zo_op]
theorem zo_rf {v : Int32} : d_rf (z_off c v) = d_rf c := by unfold d_rf; rw [zo_op]
theorem zo_ti {v : Int32} : d_ti (z_off c v) = d_ti c := by unfold d_ti; rw [zo_to]
theorem zo_fi {v : Int32} : d_fi (z_off c v) = d_fi c := by unfold d_fi; rw [zo_from]
theorem zo_fn {v : Int32} : d_fn (z_off c v) = d_fn c := by unfold d_fn; rw [zo_opn, zo_field]
theorem zo_tyo {v : Int32} : ty_op (z_off c v) T = ty_op c T := by unfold ty_op; rw [zo_rf, zo_fn, zo_fi]
theorem zo_rel {v : Int32} : ty_rel (z_off c v) T = ty_rel c T := by unfold ty_rel; rw [zo_tyo, zo_ti, zo_opn, zo_nar]
theorem zo_unr {v : Int32} : ty_unr (z_off c v) T ↔ ty_unr c T := by unfold ty_unr; rw [zo_rt, zo_ti, zo_rf, zo_fi]
theorem mv_ti {x : Int64} : d_ti (z_mv c x) = d_ti c := by unfold d_ti; rw [mv_to]
theorem mv_kd {x : Int64} : d_opn (z_mv c x) = 12 ∧ d_nar (z_mv c x) = 0 ∧ d_rf (z_mv c x) = 0 ∧ d_rt (z_mv c x) = 0 := by
  unfold d_opn d_nar d_rf d_rt
  rw [mv_op]
  decide
theorem jmp_un : ¬ ty_unr (5 ||| (c &&& 4294901760)) T := by
  unfold ty_unr d_rt d_rf
  rw [jmp_op]
  rintro (z | z) <;> exact absurd z.1 (by decide)
theorem mv_do (w : Int64) {x : Int64} (hx : x = x.toInt32.toInt64) : ty_do (z_mv c x) w nm tb kb vb en T = some (ty_set T (d_ti c) (ty_n x)) := by
  obtain ⟨a1, a2, a3, a4⟩ := mv_kd (c := c) (x := x)
  unfold ty_do
  rw [mv_fam, if_neg (by decide), if_pos rfl]
  unfold ty_ari ty_op d_fn
  rw [a1, a2, a3, if_pos ⟨rfl, rfl⟩, if_pos rfl, if_neg (by decide), mv_field, mv_ti, ← hx]
theorem ari_form {T1 : tyT} (h : ty_ari c T = some T1) : ∃ t, T1 = ty_set T (d_ti c) t := by
  unfold ty_ari at h
  by_cases g : d_opn c = 12 ∧ d_nar c = 0
  · rw [if_pos g] at h; exact ⟨_, (Option.some.inj h).symm⟩
  rw [if_neg g] at h
  by_cases g : (ty_op c T).1 = 1 ∧ ((tyC T (d_ti c)).1 = 1 ∨ d_opn c = 12)
  · rw [if_pos g] at h; exact ⟨_, (Option.some.inj h).symm⟩
  rw [if_neg g] at h
  by_cases g : ¬ d_nar c = 0 ∨ 1 < d_opn c
  · rw [if_pos g] at h; exact absurd h (by simp)
  rw [if_neg g] at h
  by_cases g : ty_ptr (tyC T (d_ti c)) ∧ (ty_op c T).1 = 1
  · rw [if_pos g] at h; exact ⟨_, (Option.some.inj h).symm⟩
  rw [if_neg g] at h
  by_cases g : d_opn c = 0 ∧ (tyC T (d_ti c)).1 = 1 ∧ ty_ptr (ty_op c T)
  · rw [if_pos g] at h; exact ⟨_, (Option.some.inj h).symm⟩
  rw [if_neg g] at h
  by_cases g : ty_ofp (tyC T (d_ti c)) ∧ ty_ofp (ty_op c T) ∧ d_opn c = 1
  · rw [if_pos g] at h; exact ⟨_, (Option.some.inj h).symm⟩
  rw [if_neg g] at h
  exact absurd h (by simp)
theorem run_more : ∀ (k : Nat) (T : tyT) (s : Nat) (r : tyT × Nat), ty_run q nm tb kb vb en k T s = some r → ty_run q nm tb kb vb en (k + 1) T s = some r := by
  intro k
  induction k with
  | zero => intro T s r h; exact absurd h (by simp [ty_run])
  | succ k ih =>
    intro T s r h
    rw [ty_run] at h ⊢
    cases e : ty_step q nm tb kb vb en T s with
    | none => rw [e] at h; exact absurd h (by simp)
    | some u =>
      obtain ⟨U, o⟩ := u
      rw [e] at h
      cases o with
      | none => exact h
      | some s1 =>
        dsimp only at h ⊢
        cases e2 : ty_run q nm tb kb vb en k U s1 with
        | none => rw [e2] at h; exact absurd h (by simp)
        | some v =>
          rw [e2] at h
          rw [ih _ _ _ e2]
          exact h
end SH
