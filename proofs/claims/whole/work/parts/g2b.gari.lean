/-! PURE: arithmetic is sound. -/
section GB
variable {nm Z : Nat} {en : Nat → Nat} {σ : sT} {T : tyT} {nu : Int32 → Int64} {mu : Int32 → Prop} {x p : sC} {t : tyV} {c : Int64} {d i : Nat}
theorem gm_ptr (h : gm_c nm en Z nu mu x t) (g : c_ptr x) : ty_ptr t ∧ t.1 = cK x := by
  rcases g with z | z | z | z
  · rw [z, (h.2.1 z).1]; exact ⟨Or.inl (h.2.1 z).1, rfl⟩
  · rw [z, (h.2.2.1 z).1]; exact ⟨Or.inr (Or.inl (h.2.2.1 z).1), rfl⟩
  · rw [z, (h.2.2.2.1 z).1]; exact ⟨Or.inr (Or.inr (Or.inl (h.2.2.2.1 z).1)), rfl⟩
  · rw [z, (h.2.2.2.2.2.2.1 z).1]; exact ⟨Or.inr (Or.inr (Or.inr (h.2.2.2.2.2.2.1 z).1)), rfl⟩
theorem gm_ofp (h : gm_c nm en Z nu mu x t) (g : c_ofp x) : ty_ofp t := by
  rcases g with z | z
  · exact Or.inl (h.2.2.2.1 z).1
  · exact Or.inr (h.2.2.2.2.1 z).1
theorem gm_k1 (h : gm_c nm en Z nu mu x t) (g : cK x = 1) : t.1 = 1 := by rw [(h.1 g).1]
theorem i64_of {v : Int64} (h1 : -2147483648 ≤ v.toInt) (h2 : v.toInt ≤ 2147483647) : v.toInt32.toInt = v.toInt := by
  rw [Int64.toInt_toInt32, Int.bmod_def]
  split <;> omega
theorem l_add {a b : Int64} (h1 : -1000000000000000 ≤ a.toInt) (h2 : a.toInt ≤ 1000000000000000) (h3 : -1000000000000000 ≤ b.toInt) (h4 : b.toInt ≤ 1000000000000000) : (a + b).toInt = a.toInt + b.toInt := by
  rw [Int64.toInt_add, Int.bmod_def]
  split <;> omega
theorem l_neg {a : Int64} (h1 : -1000000000000000 ≤ a.toInt) (h2 : a.toInt ≤ 1000000000000000) : (-a).toInt = -a.toInt := by
  rw [Int64.toInt_neg, Int.bmod_def]
  split <;> omega
theorem pl_mv {p : Int32} {w : Int64} (h1 : -65535 ≤ p.toInt) (h2 : p.toInt ≤ 65535) (h3 : -65535 ≤ w.toInt) (h4 : w.toInt ≤ 65535) : (p + w.toInt32).toInt64 = p.toInt64 + w := by
  apply Int64.toInt_inj.mp
  have e := i64_of (v := w) (by omega) (by omega)
  rw [l_of, add_b (by omega) (by omega) (by omega) (by omega), l_add (by rw [l_of]; omega) (by rw [l_of]; omega) (by omega) (by omega), l_of, e]
/-- a pointer moved -/
theorem sh_ok (hw : c_wf nm p) (hfr : c_fr d p) (hd : d ≤ 20000) (h : gm_c nm en Z nu mu p t) (hb : ∀ i, un (nu i) ≤ 65535) (h0 : nu 0 = 0) (hp : c_ptr p) {sub : Int32} {y : fn_N} {v : Int64} (hv : gN y v) {r : sC × Int32} (ho : s_sh sub p y (nI d) = some r) : ∃ nu2, nu2 0 = 0 ∧ (∀ i, un (nu2 i) ≤ 65535) ∧ (∀ e, e ≤ d → nu2 (nI e) = nu (nI e)) ∧ gm_c nm en Z nu2 mu r.1 (t.1, (if sub = 0 then t.2.1 + v else t.2.1 - v), t.2.2) := by
  obtain ⟨⟨w1, w2⟩, _, _⟩ := hw
  unfold s_sh at ho
  by_cases ex : y.2.1 = 0
  · rw [if_pos ex] at ho
    have ev := gN_ex hv ex
    subst ev
    obtain ⟨w, ew⟩ : ∃ w, w = (if sub = 0 then y.1 else -y.1) := ⟨_, rfl⟩
    rw [← ew] at ho
    by_cases g1 : y.1 < -65535
    · rw [if_pos g1] at ho; exact absurd ho (by simp)
    rw [if_neg g1] at ho
    by_cases g2 : 65535 < y.1
    · rw [if_pos g2] at ho; exact absurd ho (by simp)
    rw [if_neg g2] at ho
    by_cases g3 : cPl p + w.toInt32 < -65535
    · rw [if_pos g3] at ho; exact absurd ho (by simp)
    rw [if_neg g3] at ho
    by_cases g4 : cPl p + w.toInt32 ≤ 65535
    · rw [if_pos g4] at ho
      have hr := Option.some.inj ho
      subst hr
      rw [i64_lt] at g1 g2
      have b1 : -65535 ≤ y.1.toInt := Int.not_lt.mp g1
      have b2 : y.1.toInt ≤ 65535 := Int.not_lt.mp g2
      have ws : t.2.1 + w = (if sub = 0 then t.2.1 + y.1 else t.2.1 - y.1) ∧ -65535 ≤ w.toInt ∧ w.toInt ≤ 65535 := by
        by_cases s0 : sub = 0
        · rw [if_pos s0] at ew ⊢
          rw [ew]
          exact ⟨rfl, b1, b2⟩
        · rw [if_neg s0] at ew ⊢
          rw [ew, l_neg (by omega) (by omega)]
          exact ⟨(Int64.sub_eq_add_neg ..).symm, by omega, by omega⟩
      obtain ⟨e1, e2, e3⟩ := ws
      rw [← e1]
      have mv := pl_mv (p := cPl p) (w := w) w1 w2 e2 e3
      refine ⟨nu, h0, hb, fun _ _ => rfl, ?_⟩
      rcases hp with k | k | k | k
      · obtain ⟨a1, a2⟩ := h.2.1 k
        refine gm_2 k ⟨a1, ?_⟩
        show t.2.1 + w = (cPl p + w.toInt32).toInt64
        rw [mv, a2]
      · obtain ⟨a1, a2⟩ := h.2.2.1 k
        refine gm_3 k ⟨a1, ?_⟩
        show t.2.1 + w = (cPl p + w.toInt32).toInt64
        rw [mv, a2]
      · obtain ⟨a1, a2, a3, a4⟩ := h.2.2.2.1 k
        refine gm_4 k ⟨a1, ?_, a3, a4⟩
        show t.2.1 + w = nu (cI p) + (cPl p + w.toInt32).toInt64
        rw [mv, a2, Int64.add_assoc]
      · obtain ⟨a1, a2, a3, a4, u, a5, a6⟩ := h.2.2.2.2.2.2.1 k
        refine gm_7 k ⟨a1, a2, a3, a4, u, a5, ?_⟩
        show t.2.1 + w = u + (cPl p + w.toInt32).toInt64
        rw [mv, a6, Int64.add_assoc]
    · rw [if_neg g4] at ho; exact absurd ho (by simp)
  · rw [if_neg ex] at ho
    by_cases s0 : sub = 0
    · rw [if_pos s0] at ho ⊢
      by_cases k23 : cK p = 2 ∨ cK p = 3
      · rw [if_pos k23] at ho; exact absurd ho (by simp)
      rw [if_neg k23] at ho
      by_cases g1 : fn_lt 65535 y.2.2.2.1
      · rw [if_pos g1] at ho; exact absurd ho (by simp)
      rw [if_neg g1] at ho
      obtain ⟨N, eN⟩ : ∃ N, N = fn_fin (fn_rawT (cX p) y 0) := ⟨_, rfl⟩
      have gn : ∀ {u : Int64}, gN (cX p) u → gN N (u + v) := by
        intro u hu
        rw [eN]
        exact gN_fin (gN_raw hu hv (op := 0) (fun z => absurd z (by decide)))
      rw [← eN] at ho
      clear eN
      by_cases g2 : fn_lt 65535 N.2.2.2.1
      · rw [if_pos g2] at ho; exact absurd ho (by simp)
      rw [if_neg g2] at ho
      rw [fn_lt_un] at g2
      have sm : un N.2.2.2.1 ≤ 65535 := Nat.le_of_not_lt g2
      by_cases k4 : cK p = 4
      · rw [if_pos k4] at ho
        have hr := Option.some.inj ho
        subst hr
        obtain ⟨a1, a2, a3, a4⟩ := h.2.2.2.1 k4
        have g3 := gn a3
        have new : ∀ e, e ≤ d → ¬ nI e = nI d + 1 := by
          intro e he z
          rw [nI_s d] at z
          have := nI_inj (by omega) (by omega) z
          omega
        have n0 : ¬ (0 : Int32) = nI d + 1 := new 0 (Nat.zero_le _)
        refine ⟨fun j => if j = nI d + 1 then nu (cI p) + v else nu j, ?_, ?_, ?_, ?_⟩
        · show (if (0 : Int32) = nI d + 1 then _ else nu 0) = 0
          rw [if_neg n0]; exact h0
        · intro j
          show un (if j = nI d + 1 then nu (cI p) + v else nu j) ≤ 65535
          by_cases e : j = nI d + 1
          · rw [if_pos e]; exact Nat.le_trans g3.2.2.2.1 sm
          · rw [if_neg e]; exact hb j
        · intro e he
          show (if nI e = nI d + 1 then _ else nu (nI e)) = _
          rw [if_neg (new e he)]
        · refine gm_4 k4 ⟨a1, ?_, ?_, fun z => absurd (show 0 < (0 : Int32).toInt from z) (by decide)⟩
          · show t.2.1 + v = (if nI d + 1 = nI d + 1 then nu (cI p) + v else _) + (cPl p).toInt64
            rw [if_pos rfl, a2, Int64.add_assoc, Int64.add_assoc, Int64.add_comm v]
          · show gN N (if nI d + 1 = nI d + 1 then nu (cI p) + v else _)
            rw [if_pos rfl]
            exact g3
      · rw [if_neg k4] at ho
        have hr := Option.some.inj ho
        subst hr
        have k7 : cK p = 7 := by
          rcases hp with k | k | k | k
          · exact absurd (Or.inl k) k23
          · exact absurd (Or.inr k) k23
          · exact absurd k k4
          · exact k
        obtain ⟨a1, a2, a3, a4, u, a5, a6⟩ := h.2.2.2.2.2.2.1 k7
        refine ⟨nu, h0, hb, fun _ _ => rfl, gm_7 k7 ⟨a1, a2, a3, a4, u + v, gn a5, ?_⟩⟩
        show t.2.1 + v = u + v + (cPl p).toInt64
        rw [a6, Int64.add_assoc, Int64.add_assoc, Int64.add_comm v]
    · rw [if_neg s0] at ho; exact absurd ho (by simp)
theorem raw_12 {x y : fn_N} : fn_rawT x y 12 = y := by
  unfold fn_rawT fn_raw
  rw [if_neg (by decide), if_neg (by decide), if_neg (by decide), if_neg (by decide), if_neg (by decide), if_neg (by decide), if_neg (by decide), if_neg (by decide), if_neg (by decide), if_pos rfl]
theorem op12 {x y z : fn_N} {nar : Int32} : fn_op 12 nar x y = fn_op 12 nar z y := by
  unfold fn_op fn_opk
  rw [if_neg (show ¬ (12 : Int32) = 10 by decide), if_neg (show ¬ (12 : Int32) = 10 by decide), raw_12, raw_12, raw_12, raw_12]
theorem gam_e (h : gam nm en σ T nu mu) (hfr : s_fr d σ) {nu2 : Int32 → Int64} (h0 : nu2 0 = 0) (hb : ∀ i, un (nu2 i) ≤ 65535) (he : ∀ e, e ≤ d → nu2 (nI e) = nu (nI e)) : gam nm en σ T nu2 mu := gam_nu h h0 hb (fun i hi z => by
  obtain ⟨e, e1, e2⟩ := (hfr i hi).1 z
  rw [e2]
  exact ⟨he e e1, Iff.rfl⟩)
theorem ari_ok (hg : s_gd nm σ) (hfr : s_fr d σ) (hd : d ≤ 20000) (h : gam nm en σ T nu mu) (ht : d_ti c < 11) (hf : d_fi c < 11) {q : sT × Int32} (ho : s_arith c σ (nI d) = .ok q) : ∃ T1 nu2, ty_ari c T = some T1 ∧ tyW T1 = tyW T ∧ gam nm en q.1 T1 nu2 mu := by
  have hto := h.2.2.1 (d_ti c) (by omega)
  have hby := gm_by (c := c) h hf
  have wto := hg (d_ti c) (by omega)
  have fto := hfr (d_ti c) (by omega)
  have fby := fr_by (c := c) hfr hf
  have wby : c_ptr (s_by c σ) → c_wf nm (s_by c σ) := by
    intro z
    unfold s_by at z ⊢
    by_cases g : d_rf c = 0
    · rw [if_pos g] at z
      rcases z with z | z | z | z <;> exact absurd (show (1 : Int32) = _ from z) (by decide)
    · rw [if_neg g]
      exact hg _ (by omega)
  have exb : (d_opn c = 13 ∨ d_opn c = 14) → (cX (s_by c σ)).2.1 = 0 ∧ d_nar c = 0 := by
    intro z
    obtain ⟨z1, z2⟩ := d_sw z
    unfold s_by
    rw [if_pos z1]
    exact ⟨rfl, z2⟩
  unfold s_arith at ho
  unfold ty_ari
  generalize s_by c σ = X at hby fby wby exb ho
  generalize ty_op c T = Y at hby ⊢
  by_cases m : d_opn c = 12 ∧ d_nar c = 0
  · rw [if_pos m] at ho
    rw [if_pos m]
    cases ho
    exact ⟨_, nu, rfl, rfl, gam_set h ht hby⟩
  rw [if_neg m] at ho
  rw [if_neg m]
  by_cases n : cK X = 1 ∧ (cK (σ (d_ti c)) = 1 ∨ d_opn c = 12)
  · rw [if_pos n] at ho
    have ny : Y.1 = 1 := gm_k1 hby n.1
    have nt : (tyC T (d_ti c)).1 = 1 ∨ d_opn c = 12 := n.2.imp (fun z => gm_k1 hto z) id
    rw [if_pos ⟨ny, nt⟩]
    cases ho
    refine ⟨_, nu, rfl, rfl, gam_set h ht (gm_1 rfl ⟨rfl, ?_⟩)⟩
    show gN (fn_op (d_opn c) (d_nar c) (cX (σ (d_ti c))) (cX X)) (if d_nar c = 0 then ov (d_opn c) (tyC T (d_ti c)).2.1 Y.2.1 else ovn (d_opn c) (tyC T (d_ti c)).2.1 Y.2.1)
    rcases n.2 with z | z
    · exact gN_op (hto.1 z).2 (hby.1 n.1).2 exb
    · by_cases g : cK (σ (d_ti c)) = 1
      · exact gN_op (hto.1 g).2 (hby.1 n.1).2 exb
      · rw [z, op12 (z := fn_any)]
        rw [z] at exb
        exact gN_op any_gN (hby.1 n.1).2 exb
  rw [if_neg n] at ho
  by_cases w : ¬ d_nar c = 0 ∨ 1 < d_opn c
  · rw [if_pos w] at ho; cases ho
  rw [if_neg w] at ho
  have n12 : ¬ d_opn c = 12 := fun z => w (Or.inr (by rw [z]; decide))
  have n1 : ∀ {t : tyV}, ty_ptr t ∨ ty_ofp t → ¬ t.1 = 1 := by
    intro t z y
    rw [show ty_ptr t = (t.1 = 2 ∨ t.1 = 3 ∨ t.1 = 4 ∨ t.1 = 7) from rfl, show ty_ofp t = (t.1 = 4 ∨ t.1 = 5) from rfl, y] at z
    exact absurd z (by decide)
  by_cases a1 : c_ptr (σ (d_ti c)) ∧ cK X = 1
  · rw [if_pos a1] at ho
    have pt := gm_ptr hto a1.1
    have ny : Y.1 = 1 := gm_k1 hby a1.2
    rw [if_neg (fun z => z.2.elim (n1 (Or.inl pt.1)) n12), if_neg w, if_pos ⟨pt.1, ny⟩]
    cases sh : s_sh (s_sub c) (σ (d_ti c)) (cX X) (nI d) with
    | none => rw [sh] at ho; cases ho
    | some r =>
      rw [sh] at ho
      cases ho
      obtain ⟨nu2, b1, b2, b3, b4⟩ := sh_ok wto fto hd hto h.2.1 h.1 a1.1 (hby.1 a1.2).2 sh
      refine ⟨_, nu2, rfl, rfl, gam_set (gam_e h hfr b1 b2 b3) ht ?_⟩
      have e : (if s_sub c = 0 then (tyC T (d_ti c)).2.1 + Y.2.1 else (tyC T (d_ti c)).2.1 - Y.2.1) = (if d_opn c = 1 then (tyC T (d_ti c)).2.1 - Y.2.1 else (tyC T (d_ti c)).2.1 + Y.2.1) := by
        unfold s_sub
        by_cases o : d_opn c = 1
        · rw [if_pos o, if_pos o, if_neg (by decide)]
        · rw [if_neg o, if_neg o, if_pos rfl]
      rw [← e]
      exact b4
  rw [if_neg a1] at ho
  by_cases a2 : d_opn c = 0 ∧ cK (σ (d_ti c)) = 1 ∧ c_ptr X
  · rw [if_pos a2] at ho
    have pt := gm_ptr hby a2.2.2
    have nt : (tyC T (d_ti c)).1 = 1 := gm_k1 hto a2.2.1
    rw [if_neg (fun z => n1 (Or.inl pt.1) z.1), if_neg w, if_neg (fun z => n1 (Or.inl pt.1) z.2), if_pos ⟨a2.1, nt, pt.1⟩]
    cases sh : s_sh (s_sub c) X (cX (σ (d_ti c))) (nI d) with
    | none => rw [sh] at ho; cases ho
    | some r =>
      rw [sh] at ho
      cases ho
      obtain ⟨nu2, b1, b2, b3, b4⟩ := sh_ok (wby a2.2.2) fby hd hby h.2.1 h.1 a2.2.2 (hto.1 a2.2.1).2 sh
      refine ⟨_, nu2, rfl, rfl, gam_set (gam_e h hfr b1 b2 b3) ht ?_⟩
      have e : s_sub c = 0 := by
        unfold s_sub
        rw [if_neg (by rw [a2.1]; decide)]
      rw [if_pos e] at b4
      exact b4
  rw [if_neg a2] at ho
  by_cases a3 : c_ofp (σ (d_ti c)) ∧ c_ofp X ∧ d_opn c = 1
  · rw [if_pos a3] at ho
    cases ho
    have f1 := gm_ofp hto a3.1
    have f2 := gm_ofp hby a3.2.1
    rw [if_neg (fun z => n1 (Or.inr f2) z.1), if_neg w, if_neg (fun z => n1 (Or.inr f2) z.2), if_neg (fun z => n1 (Or.inr f1) z.2.1), if_pos ⟨f1, f2, a3.2.2⟩]
    exact ⟨_, nu, rfl, rfl, gam_set h ht (gm_1 rfl ⟨rfl, any_gN⟩)⟩
  · rw [if_neg a3] at ho; cases ho
end GB
