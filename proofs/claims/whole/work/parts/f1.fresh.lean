/-! PURE: identities are new when they are given. -/
def c_fr (d : Nat) (x : sC) : Prop := (hid x → ∃ e, e ≤ d ∧ cI x = nI e) ∧ ((cK x = 4 ∨ cK x = 7) → un (cX x).2.2.2.1 ≤ 65535) ∧ nW (cX x)
def s_fr (d : Nat) (σ : sT) : Prop := ∀ i, i < 75 → c_fr d (σ i)
section FR
variable {σ τ : sT} {c w : Int64} {d : Nat} {kb vb : Int32 → Int32}
theorem c_mono {e : Nat} {x : sC} (h : c_fr d x) (g : d ≤ e) : c_fr e x := ⟨fun z => by
  obtain ⟨f, f1, f2⟩ := h.1 z
  exact ⟨f, by omega, f2⟩, h.2⟩
theorem s_mono {e : Nat} (h : s_fr d σ) (g : d ≤ e) : s_fr e σ := fun i hi => c_mono (h i hi) g
theorem fr_e (h : e75 σ τ) (g : s_fr d σ) : s_fr d τ := fun i hi => by rw [← h i hi]; exact g i hi
theorem c_nh {x : sC} (h : ¬ hid x) (g : ¬ cK x = 7) (w : nW (cX x)) : c_fr d x := ⟨fun z => absurd z h, fun z => z.elim (fun y => absurd (Or.inl y) h) (fun y => absurd y g), w⟩
theorem ex0_u : un (fn_ex 0).2.2.2.1 ≤ 65535 := by decide
theorem c_num {z : fn_N} (hz : nW z) : c_fr d (s_num z) := c_nh (fun z => z.elim (fun y => absurd (show (1:Int32) = 4 from y) (by decide)) (fun y => absurd (show (1:Int32) = 8 from y) (by decide))) (fun y => absurd (show (1:Int32) = 7 from y) (by decide)) hz
theorem c_bare {z : Int32} : c_fr d (s_bare z) := c_nh (fun z => z.elim (fun y => absurd (show (0:Int32) = 4 from y) (by decide)) (fun y => absurd (show (0:Int32) = 8 from y) (by decide))) (fun y => absurd (show (0:Int32) = 7 from y) (by decide)) nW_ex
theorem fr_up {i : Nat} {x : sC} (h : s_fr d σ) (hx : c_fr d x) : s_fr d (up σ i x) := by
  intro j hj
  unfold up
  by_cases e : j = i
  · rw [if_pos e]; exact hx
  · rw [if_neg e]; exact h j hj
/-- an answer: the state behind has old identities, or the newest -/
def frR (d : Nat) (o : sR) : Prop := match o with
  | .error _ => True
  | .ok q => ∃ e, d ≤ e ∧ e ≤ d + 1 ∧ q.2 = nI e ∧ s_fr e q.1
theorem frR_ok (h : s_fr d σ) : frR d (.ok (σ, nI d)) := ⟨d, Nat.le_refl _, by omega, rfl, h⟩
theorem frR_er {f : Int32} : frR d (.error f) := trivial
theorem fr_by (h : s_fr d σ) (hf : d_fi c < 11) : c_fr d (s_by c σ) := by
  unfold s_by
  split
  · exact c_num nW_ex
  · exact h _ (by omega)
theorem mv_fr {i : Nat} {sub : Int32} {q : sC} {x : fn_N} (h : s_fr d σ) (hq : c_fr d q) (hx : nW x) : frR d (s_mv σ i (s_sh sub q x (nI d))) := by
  cases e : s_sh sub q x (nI d) with
  | none => exact trivial
  | some z =>
    unfold s_sh at e
    generalize (if sub = 0 then x.1 else -x.1).toInt32 = v at e
    split at e
    · split at e
      · exact absurd e (by simp)
      split at e
      · exact absurd e (by simp)
      split at e
      · exact absurd e (by simp)
      split at e
      · rw [← Option.some.inj e]
        exact ⟨d, Nat.le_refl _, by omega, rfl, fr_up h hq⟩
      · exact absurd e (by simp)
    · split at e
      · split at e
        · exact absurd e (by simp)
        split at e
        · exact absurd e (by simp)
        split at e
        · exact absurd e (by simp)
        rename_i big
        have sm : un (fn_fin (fn_rawT (cX q) x 0)).2.2.2.1 ≤ 65535 := by
          rw [fn_lt_un] at big
          exact Nat.le_of_not_lt big
        split at e
        · rw [← Option.some.inj e]
          exact ⟨d + 1, by omega, Nat.le_refl _, nI_s d, fr_up (s_mono h (by omega)) ⟨fun _ => ⟨d + 1, Nat.le_refl _, nI_s d⟩, fun _ => sm, nW_fin (nW_raw hq.2.2 hx)⟩⟩
        · rw [← Option.some.inj e]
          exact ⟨d, Nat.le_refl _, by omega, rfl, fr_up h ⟨hq.1, fun _ => sm, nW_fin (nW_raw hq.2.2 hx)⟩⟩
      · exact absurd e (by simp)
theorem arith_fr (h : s_fr d σ) (ht : d_ti c < 11) (hf : d_fi c < 11) : frR d (s_arith c σ (nI d)) := by
  have ht2 := h (d_ti c) (by omega)
  have hb := fr_by (c := c) h hf
  have hop := nW_op (op := d_opn c) (nar := d_nar c) ht2.2.2 hb.2.2
  unfold s_arith
  generalize s_by c σ = X at hb hop ⊢
  generalize fn_op (d_opn c) (d_nar c) (cX (σ (d_ti c))) (cX X) = Q at hop ⊢
  repeat' split
  all_goals first | exact frR_er | exact mv_fr h ht2 hb.2.2 | exact mv_fr h hb ht2.2.2 | exact frR_ok (fr_up h hb) | exact frR_ok (fr_up h (c_num hop)) | exact frR_ok (fr_up h (c_num nW_0))
theorem store_fr {pl : Int32} {x : sC} (h : s_fr d σ) (hx : c_fr d x) : s_fr d (s_store c pl x σ) := by
  unfold s_store
  split
  · exact fr_up h hx
  · exact fr_up h c_bare
theorem rd_fr {k pl : Int32} (h : s_fr d σ) : frR d (s_rd c k pl σ (nI d)) := by
  unfold s_rd
  refine frR_ok (fr_up h ?_)
  split
  · split
    · exact ⟨fun _ => ⟨0, Nat.zero_le _, rfl⟩, fun _ => ex0_u, nW_ex⟩
    · exact c_nh (by rintro (z | z) <;> exact absurd z (by decide)) (by decide) nW_ex
  · exact c_num nW_rd
theorem mem_fr {nm : Nat} (h : s_fr d σ) (hw : s_wf nm σ) (ht : d_ti c < 11) (hf : d_fi c < 11) : frR d (s_mem c vb σ (nI d)) := by
  obtain ⟨b, hb⟩ : ∃ b, b = (if d_fam c = 2 then d_fi c else d_ti c) := ⟨_, rfl⟩
  have hb11 : b < 11 := by rw [hb]; split <;> assumption
  unfold s_mem
  rw [← hb]
  by_cases g1 : c_ptr (σ b)
  · rw [if_neg (b1_n0 g1)]
    by_cases g2 : s_isp c vb (σ b) (cPl (σ b) + d_off c)
    · rw [if_neg (b1_n0 g2)]
      have bnd : cK (σ b) = 3 → sl (cPl (σ b) + d_off c) < 75 := by
        intro k3
        obtain ⟨q1, q2⟩ := (hw b (by omega)).1
        obtain ⟨q3, q4⟩ := off_b c
        have e := add_b (a := cPl (σ b)) (b := d_off c) (by omega) (by omega) (by omega) (by omega)
        obtain ⟨q5, q6⟩ := isp_st (by omega) (by omega) g2 k3
        exact sl_75 q5 q6
      by_cases f2 : d_fam c = 2
      · rw [if_pos f2] at hb
        subst hb
        rw [if_pos f2]
        unfold s_load
        split
        · rename_i k3
          split
          · exact frR_ok (fr_up h (h _ (bnd k3)))
          · split
            · exact rd_fr h
            · exact trivial
        · exact rd_fr h
      · rw [if_neg f2] at hb
        subst hb
        rw [if_neg f2]
        have hbx := fr_by (c := c) h hf
        have t1 : s_fr d (s_store c (cPl (σ (d_ti c)) + d_off c) (s_num fn_any) σ) := store_fr h (c_num nW_0)
        have t2 : s_fr d (s_store c (cPl (σ (d_ti c)) + d_off c) (s_by c σ) σ) := store_fr h hbx
        unfold s_put s_addTo
        generalize s_store c (cPl (σ (d_ti c)) + d_off c) (s_by c σ) σ = A at t2 ⊢
        generalize s_store c (cPl (σ (d_ti c)) + d_off c) (s_num fn_any) σ = B at t1 ⊢
        repeat' split
        all_goals first | exact frR_er | exact frR_ok h | exact frR_ok t1 | exact frR_ok t2
    · rw [if_pos (b1_f g2)]; exact trivial
  · rw [if_pos (b1_f g1)]; exact trivial
theorem lost_fr (h : s_fr d σ) : s_fr d (s_lost σ) := by
  intro i hi
  unfold s_lost
  split
  · exact c_bare
  · exact h i hi
theorem help_fr (h : s_fr d σ) : frR d (s_help c kb vb σ (nI d)) := by
  unfold s_help
  by_cases g : s_far c kb vb σ = 0
  · rw [if_pos g]
    have hl := lost_fr h
    unfold s_give
    by_cases f1 : d_field c = 1
    · rw [if_pos f1]
      exact ⟨d + 1, by omega, Nat.le_refl _, nI_s d, fr_up (s_mono hl (by omega)) ⟨fun _ => ⟨d + 1, Nat.le_refl _, nI_s d⟩, fun z => z.elim (fun y => absurd (show (8:Int32) = 4 from y) (by decide)) (fun y => absurd (show (8:Int32) = 7 from y) (by decide)), nW_ex⟩⟩
    · rw [if_neg f1]
      by_cases f4 : d_field c = 4
      · rw [if_pos f4]; exact frR_ok (fr_up hl (c_num nW_ex))
      rw [if_neg f4]
      by_cases f6 : d_field c = 6
      · rw [if_pos f6]; exact frR_ok (fr_up hl (c_num nW_rd))
      · rw [if_neg f6]; exact frR_ok (fr_up hl (c_num nW_0))
  · rw [if_neg g]; exact trivial
theorem do_fr {nm : Nat} (h : s_fr d σ) (hw : s_wf nm σ) (ht : d_ti c < 11) (hf : d_fi c < 11) : frR d (s_do c w kb vb σ (nI d)) := by
  unfold s_do
  by_cases f1 : d_fam c = 1
  · rw [if_pos f1]
    refine frR_ok (fr_up h ?_)
    by_cases g : d_from c = 0
    · rw [if_pos g]; exact c_num nW_ex
    · rw [if_neg g]; exact c_nh (fun z => z.elim (fun y => absurd (show (6:Int32) = 4 from y) (by decide)) (fun y => absurd (show (6:Int32) = 8 from y) (by decide))) (fun y => absurd (show (6:Int32) = 7 from y) (by decide)) nW_ex
  rw [if_neg f1]
  by_cases f6 : d_fam c = 6
  · rw [if_pos f6]; exact arith_fr h ht hf
  rw [if_neg f6]
  by_cases f7 : d_fam c = 7
  · rw [if_pos f7]; exact frR_ok h
  rw [if_neg f7]
  by_cases f9 : d_fam c = 9
  · rw [if_pos f9]; exact help_fr h
  rw [if_neg f9]
  by_cases f10 : d_fam c = 10
  · rw [if_pos f10]
    split
    · exact frR_ok h
    · exact trivial
  rw [if_neg f10]
  exact mem_fr h hw ht hf
def frO (d : Nat) (o : Option sT) : Prop := ∀ τ, o = some τ → s_fr d τ
def frG (d : Nat) (o : sG) : Prop := match o with
  | .error _ => True
  | .ok q => frO d q.1 ∧ frO d q.2
theorem frO_s (h : s_fr d σ) : frO d (some σ) := fun τ e => by rw [← Option.some.inj e]; exact h
theorem cn_fr {k m : Int32} (hk : k = 1 ∨ k = 7) : c_fr d (cn k 0 m 0 0 0 (fn_ex 0)) := ⟨fun z => by
  have z2 : k = 4 ∨ k = 8 := z
  rcases hk with q | q <;> rw [q] at z2 <;> exact absurd z2 (by decide), fun _ => by
  show un (if k = 1 ∨ k = 4 ∨ k = 7 then fn_ex 0 else fn_ex 0).2.2.2.1 ≤ 65535
  rw [ite_self]
  exact ex0_u, by
  show nW (if k = 1 ∨ k = 4 ∨ k = 7 then fn_ex 0 else fn_ex 0)
  rw [ite_self]
  exact nW_ex⟩
theorem dec_fr {id k : Int32} (h : s_fr d σ) (hk : k = 1 ∨ k = 7) : s_fr d (s_dec id k σ) := by
  intro i hi
  unfold s_dec s_dec1
  split
  · exact cn_fr hk
  · exact h i hi
theorem room_fr {id r : Int32} (h : s_fr d σ) : s_fr d (s_room id r σ) := by
  intro i hi
  unfold s_room s_room1
  split
  · exact ⟨fun z => (h i hi).1 z, fun z => (h i hi).2.1 z, (h i hi).2.2⟩
  · exact h i hi
theorem tn_fr {q : fn_N × fn_N} (h : s_fr d σ) (h1 : nW q.1) (h2 : nW q.2) : s_fr d (s_tn c σ q) := by
  unfold s_tn
  split
  · exact fr_up h (c_num h1)
  · exact fr_up (fr_up h (c_num h1)) (c_num h2)
theorem map_fr {o : fn_NN} (h : s_fr d σ) (ho : nP o) : frO d (o.map (s_tn c σ)) := by
  intro τ e
  cases o with
  | none => exact absurd e (by simp)
  | some q => rw [← show s_tn c σ q = τ from Option.some.inj e]; exact tn_fr h (ho q rfl).1 (ho q rfl).2
theorem end_fr {q : sC} {r : Int32} (h : s_fr d σ) : frG d (s_end q r σ) := by
  unfold s_end
  repeat' split
  all_goals first | exact trivial | exact ⟨frO_s (room_fr h), frO_s (room_fr h)⟩
theorem rel_fr (h : s_fr d σ) (ht : d_ti c < 11) (hf : d_fi c < 11) : frG d (s_rel c σ) := by
  have ht2 := (h (d_ti c) (by omega)).2.2
  have hb := (fr_by (c := c) h hf).2.2
  unfold s_rel
  by_cases o0 : d_opn c = 0
  · simp only [if_pos o0]
    repeat' split
    all_goals first | exact trivial | exact end_fr h | exact ⟨frO_s h, frO_s h⟩ | exact ⟨frO_s (dec_fr h (Or.inl rfl)), frO_s (dec_fr h (Or.inr rfl))⟩ | exact ⟨map_fr h (nP_tell ht2 hb), map_fr h (nP_tell ht2 hb)⟩
  · simp only [if_neg o0]
    repeat' split
    all_goals first | exact trivial | exact end_fr h | exact ⟨frO_s h, frO_s h⟩ | exact ⟨frO_s (dec_fr h (Or.inr rfl)), frO_s (dec_fr h (Or.inl rfl))⟩ | exact ⟨map_fr h (nP_tell ht2 hb), map_fr h (nP_tell ht2 hb)⟩
theorem first_fr : s_fr 0 s_first := by
  intro i hi
  unfold s_first
  split
  · exact c_nh (by rintro (z | z) <;> exact absurd z (by decide)) (by decide) nW_ex
  · split
    · exact c_nh (by rintro (z | z) <;> exact absurd z (by decide)) (by decide) nW_ex
    · exact c_bare
end FR
