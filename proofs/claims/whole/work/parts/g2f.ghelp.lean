/-! PURE: helpers are sound. -/
section GF
variable {nm : Nat} {tb : Nat → Prop} {en : Nat → Nat} {kb vb : Int32 → Int32} {σ : sT} {T : tyT} {nu : Int32 → Int64} {mu : Int32 → Prop} {x p : sC} {t : tyV} {c : Int64} {d i : Nat} {q : sT × Int32} {U : tyU}
theorem bit_tab : ∀ r, r < 8 → ∀ b, b < 32 → ib (jishl 1 (nI r)) b = decide (b = r) := by decide +kernel
theorem frd_can (hw : c_wf nm p) (hfr : c_fr d p) (h : gam nm en σ T nu mu) (hc : gm_c nm en (uZ (tyW T)) nu mu p t) (hZ : uZ (tyW T) ≤ 2000) (hvb : ∀ m, m < nm → 0 ≤ (vb (nI m)).toInt ∧ (vb (nI m)).toInt ≤ 64) {n : Int32} {N : Nat} (hn : n.toInt ≤ 512) (hN : (N : Int) ≤ n.toInt) (ho : s_frd vb σ p n = 0) : ty_can vb T t N := by
  obtain ⟨⟨w1, w2⟩, _, w3⟩ := hw
  unfold s_frd at ho
  by_cases k0 : cK p = 0
  · rw [if_pos k0] at ho; exact absurd ho (by decide)
  rw [if_neg k0] at ho
  by_cases k3 : cK p = 3
  · rw [if_pos k3] at ho
    by_cases g : b1 (s_able σ (cPl p) n) = 0
    · rw [if_pos g] at ho; exact absurd ho (by decide)
    obtain ⟨g1, g2, g3⟩ := b1_of g
    obtain ⟨a1, a2⟩ := hc.2.2.1 k3
    have es : (cPl p + n).toInt = (cPl p).toInt + n.toInt := add_b (by omega) (by omega) (by omega) (by omega)
    rw [i32_lt, show (-512 : Int32).toInt = -512 from rfl] at g1
    rw [i32_le, es, show (0 : Int32).toInt = 0 from rfl] at g2
    have ea : (t.2.1 + 512).toInt = (cPl p).toInt + 512 := by
      rw [a2, l_add (by rw [l_of]; omega) (by rw [l_of]; omega) (by decide) (by decide), l_of]
      rfl
    have eN : ((t.2.1 + 512).toNatClampNeg : Int) = (cPl p).toInt + 512 := by
      show (((t.2.1 + 512).toInt.toNat : Nat) : Int) = _
      rw [ea]
      omega
    refine Or.inl ⟨a1, ?_, ?_, ?_⟩
    · rw [a2, l_of]
      omega
    · rw [a2, l_of]
      omega
    · intro a ha1 ha2
      have ha5 : a < 512 := by omega
      have tab : ∀ a, a < 512 → (nI a - 512).toInt = (a : Int) - 512 := by decide +kernel
      have s := g3 (nI a - 512) (by rw [tab a ha5]; omega) (by rw [tab a ha5, es]; omega)
      obtain ⟨t1, t2, _⟩ := st_tab a ha5
      have s2 : c_able (σ (74 - a / 8)) (jishl 1 (nI (a % 8))) := by
        have s3 : c_able (σ (sl (nI a - 512))) (jishl 1 ((nI a - 512) &&& 7)) := s
        rw [t1, t2] at s3
        exact s3
      have r8 : a % 8 < 8 := Nat.mod_lt _ (by decide)
      exact able_ok (h.2.2.1 _ (by omega)) (h.2.2.2 _ (by omega) (by omega)) (fun b hb e => by
        rw [bit_tab _ r8 b hb] at e
        have := of_decide_eq_true e
        omega) r8 (by rw [bit_tab _ r8 _ (by omega)]; exact decide_eq_true rfl) s2
  rw [if_neg k3] at ho
  by_cases k4 : cK p = 4
  · rw [if_pos k4] at ho
    by_cases g : b1 (s_inp p (cPl p) n.toInt64) = 0
    · rw [if_pos g] at ho; exact absurd ho (by decide)
    obtain ⟨g1, g2⟩ := b1_of g
    obtain ⟨a1, a2, a3, a4⟩ := hc.2.2.2.1 k4
    refine Or.inr (Or.inl ⟨a1, ?_⟩)
    by_cases n0 : N = 0
    · exact Or.inl n0
    right
    rw [i32_lt, show (0 : Int32).toInt = 0 from rfl] at g1
    rw [i64_lt, l_add (by rw [l_of]; omega) (by rw [l_of]; omega) (by rw [l_of]; omega) (by rw [l_of]; omega), l_of, l_of, l_of] at g2
    have u := un_small (h.2.1 (cI p))
    have ub := h.2.1 (cI p)
    have r := a4 (by omega)
    have e : t.2.1.toInt = (un (nu (cI p)) : Int) + (cPl p).toInt := by
      rw [a2, l_add (by omega) (by omega) (by rw [l_of]; omega) (by rw [l_of]; omega), l_of, u]
    rw [e]
    omega
  rw [if_neg k4] at ho
  by_cases k7 : cK p = 7
  · rw [if_pos k7] at ho
    by_cases g : b1 (s_inv vb p (cPl p) n.toInt64) = 0
    · rw [if_pos g] at ho; exact absurd ho (by decide)
    obtain ⟨z3, z4⟩ := b1_of g
    obtain ⟨a1, a2, a3, a4, u, a5, a6⟩ := hc.2.2.2.2.2.2.1 k7
    refine Or.inr (Or.inr ⟨a1, Or.inr ?_⟩)
    have gs := hfr.2.1 (Or.inr k7)
    have l1 := a5.2.2.1
    have l2 := a5.2.2.2.1
    have eu := un_small (show un u ≤ 65535 by omega)
    have el := un_small (show un (cX p).2.2.1 ≤ 65535 by omega)
    have eg := un_small gs
    obtain ⟨v1, v2⟩ := hvb _ a3
    rw [i64_lt, l_add (by rw [l_of]; omega) (by rw [l_of]; omega) (by omega) (by omega), l_of, el, show (0 : Int64).toInt = 0 from rfl] at z3
    have e2 : ((cPl p).toInt64 + (cX p).2.2.2.1).toInt = (cPl p).toInt + (un (cX p).2.2.2.1 : Int) := by
      rw [l_add (by rw [l_of]; omega) (by rw [l_of]; omega) (by omega) (by omega), l_of, eg]
    rw [i64_lt, l_add (by rw [e2]; omega) (by rw [e2]; omega) (by rw [l_of]; omega) (by rw [l_of]; omega), e2, l_of, l_of, a2] at z4
    have e : t.2.1.toInt = (un u : Int) + (cPl p).toInt := by
      rw [a6, l_add (by omega) (by omega) (by rw [l_of]; omega) (by rw [l_of]; omega), l_of, eu]
    rw [e]
    omega
  · rw [if_neg k7] at ho; exact absurd ho (by decide)
/-- what a helper gives -/
theorem giv_ok (h : gam nm en σ T nu mu) (hU : uZ U = uZ (tyW T)) (g : gm_c nm en (uZ (tyW T)) nu mu x t) : gam nm en (up (s_lost σ) 0 x) (ty_giv T t U) nu mu := by
  obtain ⟨h1, h2, h3, h4⟩ := h
  refine ⟨h1, h2, fun j hj => ?_, fun j g1 hj => ?_⟩
  · show gm_c nm en (uZ U) nu mu (if j = 0 then x else s_lost σ j) (if j = 0 then t else (if 1 ≤ j ∧ j ≤ 5 then (0, 0, 0, 0) else tyC T j))
    rw [hU]
    by_cases e : j = 0
    · rw [if_pos e, if_pos e]; exact g
    · rw [if_neg e, if_neg e]
      unfold s_lost
      by_cases e5 : 1 ≤ j ∧ j ≤ 5
      · rw [if_pos e5]; exact gm_0 rfl
      · rw [if_neg e5, if_neg e5]; exact h3 j hj
  · show gm_s (if j = 0 then x else s_lost σ j) (if j = 0 then t else (if 1 ≤ j ∧ j ≤ 5 then (0, 0, 0, 0) else tyC T j)) (tyM T j)
    rw [if_neg (by omega), if_neg (by omega)]
    unfold s_lost
    rw [if_neg (by omega), if_neg (by omega)]
    exact h4 j g1 hj
theorem upd_Z {m : Nat} {k v : Nat → Int32} : uZ (u_upd tb kb vb en U m k v).2 = uZ U := by
  unfold u_upd
  cases u_find tb kb en U m k with
  | some i => rfl
  | none =>
    dsimp only
    by_cases g : tb m
    · rw [ic_t g]
      cases x_fst (fun i => ¬ uH U m i) (en m) 0 with
      | some i => rfl
      | none => rfl
    · rw [ic_f g]
theorem del_Z {m : Nat} {k : Nat → Int32} : uZ (u_del tb kb en U m k).2 = uZ U := by
  unfold u_del
  by_cases g : tb m
  · rw [ic_t g]
    cases u_find tb kb en U m k with
    | some i => rfl
    | none => rfl
  · rw [ic_f g]
theorem tell_Z {v : Int64} : uZ (u_tell U v) = uZ U := by
  unfold u_tell
  split <;> rfl
theorem find_lt {m i : Nat} {k : Nat → Int32} (he : en m ≤ 64) (h : u_find tb kb en U m k = some i) : i < en m := by
  unfold u_find at h
  by_cases g : tb m
  · rw [ic_t g] at h
    have := (fst_some _ _ _ h).2
    omega
  · rw [ic_f g] at h
    by_cases l : yn k 0 4 0 < (nI (en m)).toInt64
    · rw [if_pos l] at h
      have e := Option.some.inj h
      rw [i64_lt, nI_6 (by omega)] at l
      have b := yn_lt (f := k) (a := 0) 4 0 0 (by decide) (by decide)
      have b2 : un (yn k 0 4 0) < 4294967296 := b
      have e2 := int_un (yn k 0 4 0)
      rw [if_pos (by omega)] at e2
      have e3 : (yn k 0 4 0).toNatClampNeg = (yn k 0 4 0).toInt.toNat := rfl
      omega
    · rw [if_neg l] at h; exact absurd h (by simp)
theorem low_gN {v : Int64} : gN (fn_rd 4) (v &&& 4294967295) := by
  unfold fn_rd
  rw [if_neg (by decide)]
  refine gN_fin (gN_u z_m1 m1_z (u_ge _) ?_)
  rw [show un (jlshl 1 (8 * 4) - 1) = 4294967295 by decide, un_low]
  omega
theorem help_ok (hg : s_gd nm σ) (hfr : s_fr d σ) (hd : d ≤ 20000) (h : gam nm en σ T nu mu) (hZ : uZ (tyW T) ≤ 2000) (hkb : ∀ m, m < nm → 0 ≤ (kb (nI m)).toInt ∧ (kb (nI m)).toInt ≤ 64) (hvb : ∀ m, m < nm → 0 ≤ (vb (nI m)).toInt ∧ (vb (nI m)).toInt ≤ 64) (hen : ∀ m, m < nm → en m ≤ 64) (hf : d_field c = 1 ∨ d_field c = 2 ∨ d_field c = 3 ∨ d_field c = 4 ∨ d_field c = 5 ∨ d_field c = 6) (ho : s_help c kb vb σ (nI d) = .ok q) : ∃ T1 mu2, ty_hlp c nm tb kb vb en T = some T1 ∧ uZ (tyW T1) = uZ (tyW T) ∧ gam nm en q.1 T1 nu mu2 := by
  unfold s_help at ho
  by_cases far : s_far c kb vb σ = 0
  · rw [if_pos far] at ho
    have h1 := h.2.2.1 1 (by decide)
    have h2 := h.2.2.1 2 (by decide)
    have h3 := h.2.2.1 3 (by decide)
    unfold s_give at ho
    unfold s_far at far
    unfold ty_hlp
    by_cases f4 : d_field c = 4
    · rw [if_neg (by rw [f4]; decide), if_pos f4] at ho
      cases ho
      rw [if_neg (by rw [f4]; decide), if_neg (by rw [f4]; decide), if_pos f4] at far
      unfold s_fa1 at far
      by_cases k : cK (σ 1) = 1
      · rw [if_pos f4, if_pos (gm_k1 h1 k)]
        exact ⟨_, mu, rfl, tell_Z, giv_ok h tell_Z (gm_1 rfl ⟨rfl, ex_gN⟩)⟩
      · rw [if_neg k] at far
        split at far <;> exact absurd far (by decide)
    by_cases f5 : d_field c = 5
    · rw [if_neg (by rw [f5]; decide), if_neg f4, if_neg (by rw [f5]; decide)] at ho
      cases ho
      rw [if_neg f4, if_pos f5]
      exact ⟨_, mu, rfl, rfl, giv_ok h rfl (gm_1 rfl ⟨rfl, any_gN⟩)⟩
    rw [if_neg f5] at far
    by_cases f6 : d_field c = 6
    · rw [if_neg (by rw [f6]; decide), if_neg f4, if_pos f6] at ho
      cases ho
      rw [if_pos f6] at far
      unfold s_fa1 at far
      by_cases k : cK (σ 2) = 1
      · rw [if_pos k, if_neg f4, if_pos f6] at far
        by_cases g : fn_lt 512 (cX (σ 2)).2.2.2.1
        · rw [if_pos g] at far; exact absurd far (by decide)
        rw [if_neg g] at far
        rw [fn_lt_un] at g
        have g' : un (cX (σ 2)).2.2.2.1 ≤ 512 := Nat.le_of_not_lt g
        have n1 := gm_k1 h2 k
        have gv := (h2.1 k).2
        have ub : un (tyC T 2).2.1 ≤ 512 := Nat.le_trans gv.2.2.2.1 g'
        have ev := un_small (v := (tyC T 2).2.1) (by omega)
        have eg := un_small (v := (cX (σ 2)).2.2.2.1) (by omega)
        have e32 : ((cX (σ 2)).2.2.2.1.toInt32).toInt = (un (cX (σ 2)).2.2.2.1 : Int) := by rw [i64_of (by omega) (by omega), eg]
        have eN : (tyC T 2).2.1.toNatClampNeg = un (tyC T 2).2.1 := by
          show (tyC T 2).2.1.toInt.toNat = _
          rw [ev]
          exact Int.toNat_natCast _
        have can := frd_can (hg 1 (by decide)) (hfr 1 (by decide)) h h1 hZ hvb (N := (tyC T 2).2.1.toNatClampNeg) (by omega) (by rw [eN, e32]; have := gv.2.2.2.1; omega) far
        rw [if_neg f4, if_neg f5, if_pos f6, ic_t ⟨n1, by rw [l_le, ev]; show (0 : Int) ≤ _; omega, by rw [l_le, ev]; show _ ≤ (512 : Int); omega, can⟩]
        exact ⟨_, mu, rfl, rfl, giv_ok h rfl (gm_1 rfl ⟨rfl, low_gN⟩)⟩
      · rw [if_neg k] at far
        split at far <;> exact absurd far (by decide)
    rw [if_neg f6, if_neg f4] at far
    rw [if_neg f4, if_neg f5, if_neg f6]
    unfold s_fa1 at far
    by_cases k : cK (σ 1) = 6
    · rw [if_pos k, if_neg f4, if_neg f6] at far
      obtain ⟨m1, m2, m3⟩ := h1.2.2.2.2.2.1 k
      rw [m2] at far ho
      by_cases fk : s_frd vb σ (σ 2) (kb (nI (tyC T 1).2.2.1)) = 0
      · rw [if_pos fk] at far
        obtain ⟨kb1, kb2⟩ := hkb _ m3
        obtain ⟨vb1, vb2⟩ := hvb _ m3
        have ek : ((kb (nI (tyC T 1).2.2.1)).toNatClampNeg : Int) = (kb (nI (tyC T 1).2.2.1)).toInt := by
          show (((kb (nI (tyC T 1).2.2.1)).toInt.toNat : Nat) : Int) = _
          omega
        have ev : ((vb (nI (tyC T 1).2.2.1)).toNatClampNeg : Int) = (vb (nI (tyC T 1).2.2.1)).toInt := by
          show (((vb (nI (tyC T 1).2.2.1)).toInt.toNat : Nat) : Int) = _
          omega
        have ck := frd_can (hg 2 (by decide)) (hfr 2 (by decide)) h h2 hZ hvb (N := (kb (nI (tyC T 1).2.2.1)).toNatClampNeg) (by omega) (by omega) fk
        rw [ic_t ⟨m1, m3, ck⟩]
        by_cases f1 : d_field c = 1
        · rw [if_pos f1] at ho ⊢
          cases ho
          have new : ∀ e, e ≤ d → ¬ nI e = nI d + 1 := by
            intro e he z
            rw [nI_s d] at z
            have := nI_inj (by omega) (by omega) z
            omega
          have old : ∀ F : Prop, gam nm en σ T nu (fun j => (j = nI d + 1 ∧ F) ∨ (¬ j = nI d + 1 ∧ mu j)) := by
            intro F
            refine gam_nu h h.1 h.2.1 (fun i hi z => ⟨rfl, ?_⟩)
            obtain ⟨e, e1, e2⟩ := (hfr i hi).1 z
            rw [e2]
            exact ⟨fun y => y.elim (fun w => absurd w.1 (new e e1)) (fun w => w.2), fun y => Or.inr ⟨new e e1, y⟩⟩
          cases fi : u_find tb kb en (tyW T) (tyC T 1).2.2.1 (ty_key T (tyC T 2)) with
          | some i =>
            exact ⟨_, _, rfl, rfl, giv_ok (old True) rfl (gm_8 rfl (Or.inl ⟨Or.inl ⟨rfl, trivial⟩, rfl, rfl, m3, find_lt (hen _ m3) fi, rfl⟩))⟩
          | none =>
            exact ⟨_, _, rfl, rfl, giv_ok (old False) rfl (gm_8 rfl (Or.inr ⟨fun z => z.elim (fun w => w.2) (fun w => w.1 rfl), rfl⟩))⟩
        · rw [if_neg f1, if_neg f4, if_neg f6] at ho
          rw [if_neg f1]
          cases ho
          by_cases f2 : d_field c = 2
          · rw [if_pos f2] at far ⊢
            have cv := frd_can (hg 3 (by decide)) (hfr 3 (by decide)) h h3 hZ hvb (N := (vb (nI (tyC T 1).2.2.1)).toNatClampNeg) (by omega) (by omega) far
            rw [ic_t cv]
            exact ⟨_, mu, rfl, upd_Z, giv_ok h upd_Z (gm_1 rfl ⟨rfl, any_gN⟩)⟩
          · rw [if_neg f2]
            exact ⟨_, mu, rfl, del_Z, giv_ok h del_Z (gm_1 rfl ⟨rfl, any_gN⟩)⟩
      · rw [if_neg fk] at far
        exact absurd far fk
    · rw [if_neg k] at far
      split at far <;> exact absurd far (by decide)
  · rw [if_neg far] at ho; cases ho
end GF
