/-! PURE: relations are sound. -/
section GG
variable {nm : Nat} {en : Nat → Nat} {σ : sT} {T : tyT} {nu : Int32 → Int64} {mu : Int32 → Prop} {x p : sC} {t : tyV} {c : Int64} {d i : Nat} {q : Option sT × Option sT}
theorem gam_reg (h : gam nm en σ T nu mu) (hi : i < 11) (g : gm_c nm en (uZ (tyW T)) nu mu x (tyC T i)) : gam nm en (up σ i x) T nu mu := by
  obtain ⟨h1, h2, h3, h4⟩ := h
  refine ⟨h1, h2, fun j hj => ?_, fun j g1 hj => ?_⟩
  · show gm_c nm en (uZ (tyW T)) nu mu (if j = i then x else σ j) (tyC T j)
    by_cases e : j = i
    · rw [if_pos e, e]; exact g
    · rw [if_neg e]; exact h3 j hj
  · show gm_s (if j = i then x else σ j) (tyC T j) (tyM T j)
    rw [if_neg (by omega)]
    exact h4 j g1 hj
theorem hld_0 {a b : Int64} : hld 0 a b ↔ a = b := Iff.rfl
theorem hld_1 {a b : Int64} : hld 1 a b ↔ un b < un a := Iff.rfl
theorem hld_2 {a b : Int64} : hld 2 a b ↔ un b ≤ un a := Iff.rfl
theorem hld_3 {a b : Int64} : hld 3 a b ↔ ¬ a &&& b = 0 := Iff.rfl
theorem hld_4 {a b : Int64} : hld 4 a b ↔ ¬ a = b := Iff.rfl
theorem hld_5 {a b : Int64} : hld 5 a b ↔ b.toInt < a.toInt := Iff.rfl
theorem hld_6 {a b : Int64} : hld 6 a b ↔ b.toInt ≤ a.toInt := Iff.rfl
theorem hld_7 {a b : Int64} : hld 7 a b ↔ un a < un b := Iff.rfl
theorem hld_8 {a b : Int64} : hld 8 a b ↔ un a ≤ un b := Iff.rfl
theorem hld_9 {a b : Int64} : hld 9 a b ↔ a.toInt < b.toInt := Iff.rfl
theorem hld_10 {a b : Int64} : hld 10 a b ↔ a.toInt ≤ b.toInt := Iff.rfl
theorem hld_11 {a b : Int64} : hld 11 a b ↔ a &&& b = 0 := Iff.rfl
theorem hld_no {op : Int32} {a b : Int64} (ho : op ∈ ([0, 1, 2, 3, 4, 5, 6, 7, 8, 9, 10] : List Int32)) (h : ¬ hld op a b) : hld (fz_k op.toNatClampNeg) a b := by
  simp only [List.mem_cons, List.not_mem_nil, or_false] at ho
  rcases ho with e | e | e | e | e | e | e | e | e | e | e <;> subst e
  · exact h
  · rw [hld_1] at h; exact Nat.le_of_not_lt h
  · rw [hld_2] at h; exact Nat.lt_of_not_le h
  · rw [hld_3] at h; exact Classical.not_not.mp h
  · rw [hld_4] at h; exact Classical.not_not.mp h
  · rw [hld_5] at h; exact Int.not_lt.mp h
  · rw [hld_6] at h; exact Int.not_le.mp h
  · rw [hld_7] at h; exact Nat.le_of_not_lt h
  · rw [hld_8] at h; exact Nat.lt_of_not_le h
  · rw [hld_9] at h; exact Int.not_lt.mp h
  · rw [hld_10] at h; exact Int.not_le.mp h
theorem sgn_k {op : Int32} (ho : op ∈ ([0, 1, 2, 3, 4, 5, 6, 7, 8, 9, 10] : List Int32)) : fn_sgn (fz_k op.toNatClampNeg) ↔ fn_sgn op := by
  simp only [List.mem_cons, List.not_mem_nil, or_false] at ho
  rcases ho with e | e | e | e | e | e | e | e | e | e | e <;> subst e <;> decide
theorem hldn_no {op nar : Int32} {a b : Int64} (ho : op ∈ ([0, 1, 2, 3, 4, 5, 6, 7, 8, 9, 10] : List Int32)) (h : ¬ hldn op nar a b) : hldn (fz_k op.toNatClampNeg) nar a b := by
  unfold hldn at h ⊢
  by_cases n : nar = 0
  · rw [if_pos n] at h ⊢
    exact hld_no ho h
  rw [if_neg n] at h ⊢
  by_cases g : fn_sgn op
  · rw [if_pos g] at h
    rw [if_pos ((sgn_k ho).mpr g)]
    exact hld_no ho h
  · rw [if_neg g] at h
    rw [if_neg (fun z => g ((sgn_k ho).mp z))]
    exact hld_no ho h
theorem rel_opn (f8 : d_fam c = 8) : d_opn c ∈ ([0, 1, 2, 3, 4, 5, 6, 7, 8, 9, 10] : List Int32) := by
  obtain ⟨n, hn, e⟩ := d_lt c
  unfold d_fam at f8
  unfold d_opn
  rw [e] at f8 ⊢
  exact t_rel2 n hn f8
/-- more is known of numbers -/
theorem tn_ok (h : gam nm en σ T nu mu) (ht : d_ti c < 11) (hf : d_fi c < 11) (n1 : tyC T (d_ti c) = ty_n (tyC T (d_ti c)).2.1) (n2 : ¬ d_rf c = 0 → tyC T (d_fi c) = ty_n (tyC T (d_fi c)).2.1) {o : fn_NN} (g : gQ o (tyC T (d_ti c)).2.1 (ty_op c T).2.1) : ∃ a, o.map (s_tn c σ) = some a ∧ gam nm en a T nu mu := by
  obtain ⟨r, r1, r2, r3⟩ := g
  rw [r1]
  refine ⟨_, rfl, ?_⟩
  unfold s_tn
  by_cases f : d_rf c = 0
  · rw [if_pos f]
    exact gam_reg h ht (gm_1 rfl ⟨n1, r2⟩)
  · rw [if_neg f]
    unfold ty_op at r3
    rw [if_neg f] at r3
    exact gam_reg (gam_reg h ht (gm_1 rfl ⟨n1, r2⟩)) hf (gm_1 rfl ⟨n2 f, r3⟩)
theorem dec_ok (h : gam nm en σ T nu mu) {id k : Int32} (hk : (k = 7 ∧ mu id) ∨ (k = 1 ∧ ¬ mu id)) : gam nm en (s_dec id k σ) T nu mu := by
  obtain ⟨h1, h2, h3, h4⟩ := h
  refine ⟨h1, h2, fun j hj => ?_, fun j g1 hj => ?_⟩
  · show gm_c nm en (uZ (tyW T)) nu mu (s_dec1 id k (σ j)) (tyC T j)
    unfold s_dec1
    by_cases g : cK (σ j) = 8 ∧ cI (σ j) = id
    · rw [if_pos g]
      have hc := (h3 j hj).2.2.2.2.2.2.2.1 g.1
      rw [g.2] at hc
      rcases hk with ⟨e, m⟩ | ⟨e, m⟩
      · subst e
        rcases hc with y | y
        · obtain ⟨_, y1, y2, y3, y4, y5⟩ := y
          refine gm_7 rfl ⟨y1, y2, y3, y4, 0, ex_gN, ?_⟩
          rw [y5]; rfl
        · exact absurd m y.1
      · subst e
        rcases hc with y | y
        · exact absurd y.1 m
        · refine gm_1 rfl ?_
          rw [y.2]
          exact ⟨rfl, ex_gN⟩
    · rw [if_neg g]; exact h3 j hj
  · show gm_s (s_dec1 id k (σ j)) (tyC T j) (tyM T j)
    unfold s_dec1
    by_cases g : cK (σ j) = 8 ∧ cI (σ j) = id
    · rw [if_pos g]
      intro z
      have z2 : k = 0 := z
      rcases hk with ⟨e, _⟩ | ⟨e, _⟩ <;> rw [e] at z2 <;> exact absurd z2 (by decide)
    · rw [if_neg g]; exact h4 j g1 hj
theorem room_ok (h : gam nm en σ T nu mu) {id r : Int32} (hr : 0 < r.toInt → (un (nu id) : Int) + r.toInt ≤ (uZ (tyW T) : Int)) : gam nm en (s_room id r σ) T nu mu := by
  obtain ⟨h1, h2, h3, h4⟩ := h
  refine ⟨h1, h2, fun j hj => ?_, fun j g1 hj => ?_⟩
  · show gm_c nm en (uZ (tyW T)) nu mu (s_room1 id r (σ j)) (tyC T j)
    unfold s_room1
    by_cases g : cK (σ j) = 4 ∧ cI (σ j) = id
    · rw [if_pos g]
      obtain ⟨a1, a2, a3, a4⟩ := (h3 j hj).2.2.2.1 g.1
      refine gm_4 g.1 ⟨a1, a2, a3, ?_⟩
      show 0 < (jimax (cR (σ j)) r).toInt → (un (nu (cI (σ j))) : Int) + (jimax (cR (σ j)) r).toInt ≤ _
      unfold jimax
      split
      · rw [g.2]; exact hr
      · exact a4
    · rw [if_neg g]; exact h3 j hj
  · show gm_s (s_room1 id r (σ j)) (tyC T j) (tyM T j)
    unfold s_room1
    by_cases g : cK (σ j) = 4 ∧ cI (σ j) = id
    · rw [if_pos g]
      intro z
      have z2 : cK (σ j) = 0 := z
      rw [g.1] at z2
      exact absurd z2 (by decide)
    · rw [if_neg g]; exact h4 j g1 hj
/-- a place of the packet against its end -/
theorem un_3 {v : Int64} (h1 : -1000000 ≤ v.toInt) (h2 : v.toInt ≤ 1000000) : (un (3298534883328 + v) : Int) = 3298534883328 + v.toInt := by
  have e : (3298534883328 + v).toInt = 3298534883328 + v.toInt := by
    rw [l_add (by decide) (by decide) (by omega) (by omega)]
    rfl
  have u := int_un (3298534883328 + v)
  have l := un_lt (3298534883328 + v)
  split at u <;> omega
theorem end_ok (hw : c_wf nm p) (h : gam nm en σ T nu mu) (hc : gm_c nm en (uZ (tyW T)) nu mu p t) (hZ : uZ (tyW T) ≤ 2000) (k4 : cK p = 4) {rel : Int32} (ho : s_end p rel σ = .ok q) {G : Prop} (h1 : rel = 1 → (G ↔ un (3298534883328 + (nI (uZ (tyW T))).toInt64) < un (3298534883328 + t.2.1))) (h2 : rel = 2 → (G ↔ un (3298534883328 + (nI (uZ (tyW T))).toInt64) ≤ un (3298534883328 + t.2.1))) (h7 : rel = 7 → (G ↔ un (3298534883328 + t.2.1) < un (3298534883328 + (nI (uZ (tyW T))).toInt64))) (h8 : rel = 8 → (G ↔ un (3298534883328 + t.2.1) ≤ un (3298534883328 + (nI (uZ (tyW T))).toInt64))) : (G → ∃ a, q.1 = some a ∧ gam nm en a T nu mu) ∧ (¬ G → ∃ b, q.2 = some b ∧ gam nm en b T nu mu) := by
  obtain ⟨⟨w1, w2⟩, _, w3⟩ := hw
  obtain ⟨a1, a2, a3, a4⟩ := hc.2.2.2.1 k4
  have u := un_small (h.2.1 (cI p))
  have ub := h.2.1 (cI p)
  have e : t.2.1.toInt = (un (nu (cI p)) : Int) + (cPl p).toInt := by
    rw [a2, l_add (by omega) (by omega) (by rw [l_of]; omega) (by rw [l_of]; omega), l_of, u]
  have ut := un_3 (v := t.2.1) (by omega) (by omega)
  have eZ := nI_6 (k := uZ (tyW T)) (by omega)
  have uE := un_3 (v := (nI (uZ (tyW T))).toInt64) (by omega) (by omega)
  have p1 : (cPl p + 1).toInt = (cPl p).toInt + 1 := add_b (by omega) (by omega) (by decide) (by decide)
  have z0 : gam nm en (s_room (cI p) 0 σ) T nu mu := room_ok h (fun z => absurd z (by decide))
  unfold s_end at ho
  by_cases r1 : rel = 1
  · rw [if_pos r1] at ho
    cases ho
    refine ⟨fun _ => ⟨_, rfl, z0⟩, fun g => ⟨_, rfl, room_ok h (fun _ => ?_)⟩⟩
    rw [h1 r1] at g
    omega
  rw [if_neg r1] at ho
  by_cases r2 : rel = 2
  · rw [if_pos r2] at ho
    cases ho
    refine ⟨fun _ => ⟨_, rfl, z0⟩, fun g => ⟨_, rfl, room_ok h (fun _ => ?_)⟩⟩
    rw [h2 r2] at g
    omega
  rw [if_neg r2] at ho
  by_cases r7 : rel = 7
  · rw [if_pos r7] at ho
    cases ho
    refine ⟨fun g => ⟨_, rfl, room_ok h (fun _ => ?_)⟩, fun _ => ⟨_, rfl, z0⟩⟩
    rw [h7 r7] at g
    omega
  rw [if_neg r7] at ho
  by_cases r8 : rel = 8
  · rw [if_pos r8] at ho
    cases ho
    refine ⟨fun g => ⟨_, rfl, room_ok h (fun _ => ?_)⟩, fun _ => ⟨_, rfl, z0⟩⟩
    rw [h8 r8] at g
    omega
  · rw [if_neg r8] at ho; cases ho
end GG
