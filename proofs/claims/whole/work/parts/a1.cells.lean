/-! PURE: cells of the class: what they hold, and what their methods do. -/
abbrev sC : Type := Int32 × Int32 × Int32 × Int32 × Int32 × Int32 × fn_N
/-- what is known of a cell: only what its kind has -/
def cn (k p m i r w : Int32) (x : fn_N) : sC := (k, (if k = 2 ∨ k = 3 ∨ k = 4 ∨ k = 7 then p else 0), (if k = 6 ∨ k = 7 ∨ k = 8 then m else 0), (if k = 4 ∨ k = 8 then i else 0), (if k = 4 then r else 0), (if k = 0 then w else 0), (if k = 1 ∨ k = 4 ∨ k = 7 then x else fn_ex 0))
/-- a cell's number -/
def nu (c : Nat) : Nat := if c = 0 then 5 else c + 10
theorem nu_5 {c : Nat} : 4 < nu c := by unfold nu; split <;> omega
theorem nu_inj {c d : Nat} (h : nu c = nu d) : c = d := by unfold nu at h; split at h <;> split at h <;> omega
theorem nu_g {c : Nat} (h : 0 < c) : nu c = c + 10 := by unfold nu; rw [if_neg (by omega)]
def cv (M : me_M) (c : Nat) : sC := cn (mI M 10 c 0) (mI M 10 c 1) (mI M 10 c 2) (mI M 10 c 3) (mI M 10 c 4) (mI M 10 c 5) (pg M (nu c))
abbrev s_num (x : fn_N) : sC := (1, 0, 0, 0, 0, 0, x)
abbrev s_bare (w : Int32) : sC := (0, 0, 0, 0, 0, w, fn_ex 0)
/-- only things of P are changed, and no reference -/
def fr (P : Nat → Nat → Prop) (M M1 : me_M) : Prop := mR M1 = mR M ∧ mN M1 = mN M ∧ mZ M1 = mZ M ∧ (∀ k j, ¬ P k j → mI M1 k j = mI M k j) ∧ ∀ k j, ¬ P k j → mL M1 k j = mL M k j
section FR
variable {M M1 M2 : me_M} {P Q : Nat → Nat → Prop} {S : Nat → Prop} {k j c d : Nat} {v : Int32} {x : fn_N}
theorem fr_refl : fr P M M := ⟨rfl, rfl, rfl, fun _ _ _ => rfl, fun _ _ _ => rfl⟩
theorem fr_trans (h : fr P M M1) (g : fr P M1 M2) : fr P M M2 := ⟨g.1.trans h.1, g.2.1.trans h.2.1, g.2.2.1.trans h.2.2.1, fun k j z => (g.2.2.2.1 k j z).trans (h.2.2.2.1 k j z), fun k j z => (g.2.2.2.2 k j z).trans (h.2.2.2.2 k j z)⟩
theorem fr_mono (h : fr P M M1) (g : ∀ k j, P k j → Q k j) : fr Q M M1 := ⟨h.1, h.2.1, h.2.2.1, fun k j z => h.2.2.2.1 k j (fun q => z (g k j q)), fun k j z => h.2.2.2.2 k j (fun q => z (g k j q))⟩
theorem fr_I {f : Nat} (h : P k j) : fr P M (wI M k j f v) := by
  refine ⟨rfl, rfl, rfl, ?_, fun _ _ _ => rfl⟩
  intro a b z
  funext e
  exact if_neg (fun q => z (by rw [q.1, q.2.1]; exact h))
theorem fr_pq (h : pq S M M1) (g : ∀ i, S i → P 11 i) : fr P M M1 := by
  refine ⟨h.2.1, h.2.2.1, h.2.2.2.1, ?_, ?_⟩
  · intro a b _
    rw [h.1]
  · intro a b z
    funext e
    exact h.2.2.2.2 a b e (fun q => z (by rw [q.1]; exact g b q.2))
theorem fr_t (h : P 11 j) : fr P M (pn_t M j x) := fr_pq (pq_t (S := fun i => i = j) rfl) (fun i hi => by rw [hi]; exact h)
theorem pg_fr (h : fr P M M1) (g : ¬ P 11 j) : pg M1 j = pg M j := by
  unfold pg
  rw [h.2.2.2.2 11 j g]
theorem cv_fr (h : fr P M M1) (g : ¬ P 10 c) (g2 : ¬ P 11 (nu c)) : cv M1 c = cv M c := by
  unfold cv
  rw [h.2.2.2.1 10 c g, pg_fr h g2]
theorem pt_I : mI (pn_t M j x) = mI M := rfl
theorem pt_R : mR (pn_t M j x) = mR M := rfl
theorem pg_I {f i : Nat} : pg (wI M k j f v) i = pg M i := rfl
end FR
/-- a cell and its number -/
def cP (c k j : Nat) : Prop := (k = 10 ∧ j = c) ∨ (k = 11 ∧ j = nu c)
theorem cP0 {c : Nat} : cP c 10 c := Or.inl ⟨rfl, rfl⟩
theorem cP1 {c : Nat} : cP c 11 (nu c) := Or.inr ⟨rfl, rfl⟩
theorem cv_cP {M M1 : me_M} {c d : Nat} (h : fr (cP c) M M1) (g : ¬ d = c) : cv M1 d = cv M d := cv_fr h (fun z => z.elim (fun q => g q.2) (fun q => absurd q.1 (by decide))) (fun z => z.elim (fun q => absurd q.1 (by decide)) (fun q => g (nu_inj q.2)))
theorem pt_cp {M : me_M} {j i : Nat} : f_Num_copy M j i = some (pn_t M j (pg M i)) := by
  by_cases h : i = j
  · subst h
    rw [pt_id]
    unfold f_Num_copy
    simp only [st_eq, pL_id]
  · exact pt_copy h
section CE
variable {M : me_M} {c d : Nat}
theorem ce_clear : ∃ M1, f_Cell_clear M c = some M1 ∧ cv M1 c = s_bare 0 ∧ fr (cP c) M M1 := by
  refine ⟨_, rfl, ?_, fr_trans (fr_I cP0) (fr_I cP0)⟩
  unfold cv
  simp [cn, pI_I, pg_I]
theorem ce_become {k p : Int32} (h : mR M 10 c 6 = some (nu c)) : ∃ M1, f_Cell_become M c k p = some M1 ∧ cv M1 c = cn k p 0 0 0 (mI M 10 c 5) (fn_ex 0) ∧ fr (cP c) M M1 := by
  unfold f_Cell_become
  simp only [st_eq]
  rw [h, bd_some, pt_exact, bd_some]
  refine ⟨_, rfl, ?_, fr_trans (fr_trans (fr_trans (fr_trans (fr_trans (fr_I cP0) (fr_I cP0)) (fr_I cP0)) (fr_I cP0)) (fr_I cP0)) (fr_t cP1)⟩
  unfold cv
  rw [pg_t]
  simp [pt_I, pI_I]
theorem ce_exact {v : Int64} (h : mR M 10 c 6 = some (nu c)) : ∃ M1, f_Cell_becomeExact M c v = some M1 ∧ cv M1 c = s_num (fn_ex v) ∧ fr (cP c) M M1 := by
  unfold f_Cell_becomeExact
  simp only [st_eq]
  rw [h, bd_some, pt_exact, bd_some]
  refine ⟨_, rfl, ?_, fr_trans (fr_I cP0) (fr_t cP1)⟩
  unfold cv
  rw [pg_t]
  simp [pt_I, pI_I, cn]
theorem ce_any (h : mR M 10 c 6 = some (nu c)) : ∃ M1, f_Cell_becomeAny M c = some M1 ∧ cv M1 c = s_num fn_any ∧ fr (cP c) M M1 := by
  unfold f_Cell_becomeAny
  simp only [st_eq]
  rw [h, bd_some, pt_any, bd_some]
  refine ⟨_, rfl, ?_, fr_trans (fr_I cP0) (fr_t cP1)⟩
  unfold cv
  rw [pg_t]
  simp [pt_I, pI_I, cn]
/-- any number of so many bytes -/
def fn_rd (n : Int32) : fn_N := if 8 ≤ n then fn_any else fn_fin (0, -1, 0, jlshl 1 (8 * n) - 1, -9223372036854775808, 9223372036854775807)
theorem fn_rd_it : ∀ n : Int32, (n = 1 ∨ n = 2 ∨ n = 4) → ∃ z, fn_it 3 (0, -1, 0, jlshl 1 (8 * n) - 1, -9223372036854775808, 9223372036854775807) = some z := by
  intro n h
  have k : ∀ n : Int32, (n = 1 ∨ n = 2 ∨ n = 4) → (fn_it 3 (0, -1, 0, jlshl 1 (8 * n) - 1, -9223372036854775808, 9223372036854775807)).isSome = true := by
    intro n h
    rcases h with rfl | rfl | rfl <;> decide +kernel
  exact Option.isSome_iff_exists.mp (k n h)
theorem ce_read {n : Int32} (h : mR M 10 c 6 = some (nu c)) (hn : n = 1 ∨ n = 2 ∨ n = 4 ∨ n = 8) : ∃ M1, f_Cell_becomeRead M c n = some M1 ∧ cv M1 c = s_num (fn_rd n) ∧ fr (cP c) M M1 := by
  unfold f_Cell_becomeRead
  simp only [st_eq]
  rw [h, bd_some, pt_any, bd_some]
  by_cases g : 8 ≤ n
  · rw [if_pos g]
    refine ⟨_, rfl, ?_, fr_trans (fr_I cP0) (fr_t cP1)⟩
    unfold cv fn_rd
    rw [pg_t, if_pos g]
    simp [pt_I, pI_I, cn]
  · have hn2 : n = 1 ∨ n = 2 ∨ n = 4 := by
      rcases hn with r | r | r | r
      · exact Or.inl r
      · exact Or.inr (Or.inl r)
      · exact Or.inr (Or.inr r)
      · exact absurd (by rw [r]; decide) g
    obtain ⟨z, hz⟩ := fn_rd_it n hn2
    rw [if_neg g]
    have e1 : f_Num_range (pn_t (wI M 10 c 0 1) (nu c) fn_any) (nu c) 0 (jlshl 1 (8 * n) - 1) = some (pn_t (wI M 10 c 0 1) (nu c) (0, -1, 0, jlshl 1 (8 * n) - 1, -9223372036854775808, 9223372036854775807)) := pf_range
    rw [e1, bd_some, pt_settle_some (x := z) (by rw [pg_t]; exact hz), b2_some, pt_two]
    refine ⟨_, rfl, ?_, fr_trans (fr_I cP0) (fr_t cP1)⟩
    unfold cv fn_rd fn_fin
    rw [pg_t, if_neg g, hz]
    simp [pt_I, pI_I, cn]
theorem ite_hp {α : Type} {c : Prop} [Decidable c] {a b z : α} (h : c → a = b) : (if c then a else z) = if c then b else z := by
  by_cases g : c
  · rw [if_pos g, if_pos g, h g]
  · rw [if_neg g, if_neg g]
theorem cn_eq {k p m i r w p2 m2 i2 r2 w2 : Int32} {x x2 : fn_N} (hp : (k = 2 ∨ k = 3 ∨ k = 4 ∨ k = 7) → p = p2) (hm : (k = 6 ∨ k = 7 ∨ k = 8) → m = m2) (hi : (k = 4 ∨ k = 8) → i = i2) (hr : k = 4 → r = r2) (hw : k = 0 → w = w2) (hx : (k = 1 ∨ k = 4 ∨ k = 7) → x = x2) : cn k p m i r w x = cn k p2 m2 i2 r2 w2 x2 := by
  unfold cn
  refine Prod.ext rfl (Prod.ext ?_ (Prod.ext ?_ (Prod.ext ?_ (Prod.ext ?_ (Prod.ext ?_ ?_)))))
  · exact ite_hp hp
  · exact ite_hp hm
  · exact ite_hp hi
  · exact ite_hp hr
  · exact ite_hp hw
  · exact ite_hp hx
theorem ce_copy (h : mR M 10 c 6 = some (nu c)) (h2 : mR M 10 d 6 = some (nu d)) : ∃ M1, f_Cell_copy M c d = some M1 ∧ cv M1 c = cv M d ∧ fr (cP c) M M1 := by
  obtain ⟨k, hk⟩ : ∃ k, k = mI M 10 d 0 := ⟨_, rfl⟩
  -- the first two writes
  obtain ⟨A, hA⟩ : ∃ A, A = wI (wI M 10 c 0 (mI M 10 d 0)) 10 c 5 (mI (wI M 10 c 0 (mI M 10 d 0)) 10 d 5) := ⟨_, rfl⟩
  have fA : fr (cP c) M A := by rw [hA]; exact fr_trans (fr_I cP0) (fr_I cP0)
  have A0 : mI A 10 c 0 = k := by rw [hA, hk]; simp [pI_I]
  have A5 : mI A 10 c 5 = mI M 10 d 5 := by rw [hA]; simp [pI_I]
  have An : ∀ i, pg A i = pg M i := by intro i; rw [hA]; rfl
  have Ad : ∀ f, ¬ f = 0 → ¬ f = 5 → mI A 10 d f = mI M 10 d f := by intro f g0 g5; rw [hA]; simp [pI_I, g0, g5]
  unfold f_Cell_copy
  rw [st_eq, st_eq, ← hA, A0]
  by_cases k0 : k = 0
  · rw [if_pos k0]
    refine ⟨A, rfl, ?_, fA⟩
    unfold cv
    rw [A0, ← hk, A5]
    exact cn_eq (fun z => absurd k0 (by rcases z with z | z | z | z <;> rw [z] <;> decide)) (fun z => absurd k0 (by rcases z with z | z | z <;> rw [z] <;> decide)) (fun z => absurd k0 (by rcases z with z | z <;> rw [z] <;> decide)) (fun z => absurd k0 (by rw [z]; decide)) (fun _ => rfl) (fun z => absurd k0 (by rcases z with z | z | z <;> rw [z] <;> decide))
  · rw [if_neg k0, st_eq, st_eq, st_eq, st_eq]
    obtain ⟨B, hB⟩ : ∃ B, B = wI (wI (wI (wI A 10 c 1 (mI A 10 d 1)) 10 c 2 (mI (wI A 10 c 1 (mI A 10 d 1)) 10 d 2)) 10 c 3 (mI (wI (wI A 10 c 1 (mI A 10 d 1)) 10 c 2 (mI (wI A 10 c 1 (mI A 10 d 1)) 10 d 2)) 10 d 3)) 10 c 4 (mI (wI (wI (wI A 10 c 1 (mI A 10 d 1)) 10 c 2 (mI (wI A 10 c 1 (mI A 10 d 1)) 10 d 2)) 10 c 3 (mI (wI (wI A 10 c 1 (mI A 10 d 1)) 10 c 2 (mI (wI A 10 c 1 (mI A 10 d 1)) 10 d 2)) 10 d 3)) 10 d 4) := ⟨_, rfl⟩
    have fB : fr (cP c) M B := by rw [hB]; exact fr_trans (fr_trans (fr_trans (fr_trans fA (fr_I cP0)) (fr_I cP0)) (fr_I cP0)) (fr_I cP0)
    have B0 : mI B 10 c 0 = k := by rw [hB]; simp [pI_I, A0]
    have B1 : mI B 10 c 1 = mI M 10 d 1 := by rw [hB, ← Ad 1 (by decide) (by decide)]; simp [pI_I]
    have B2 : mI B 10 c 2 = mI M 10 d 2 := by rw [hB, ← Ad 2 (by decide) (by decide)]; simp [pI_I]
    have B3 : mI B 10 c 3 = mI M 10 d 3 := by rw [hB, ← Ad 3 (by decide) (by decide)]; simp [pI_I]
    have B4 : mI B 10 c 4 = mI M 10 d 4 := by rw [hB, ← Ad 4 (by decide) (by decide)]; simp [pI_I]
    have Bn : ∀ i, pg B i = pg M i := by intro i; rw [hB]; exact An i
    have BR : mR B = mR M := fB.1
    rw [← hB, B0]
    have num : ∃ M1, f_Num_copy B (nu c) (nu d) = some M1 ∧ cv M1 c = cv M d ∧ fr (cP c) M M1 := by
      rw [pt_cp, Bn]
      refine ⟨_, rfl, ?_, fr_trans fB (fr_t cP1)⟩
      unfold cv
      rw [pg_t, pt_I, B0, B1, B2, B3, B4, ← hk]
      exact cn_eq (fun _ => rfl) (fun _ => rfl) (fun _ => rfl) (fun _ => rfl) (fun z => absurd z k0) (fun _ => rfl)
    by_cases k1 : k = 1
    · rw [if_pos k1, h, bd_some, h2, bd_some]
      obtain ⟨M1, a1, a2, a3⟩ := num
      rw [a1, bd_some]
      exact ⟨M1, rfl, a2, a3⟩
    rw [if_neg k1]
    by_cases k4 : k = 4
    · rw [if_pos k4, h, bd_some, h2, bd_some]
      obtain ⟨M1, a1, a2, a3⟩ := num
      rw [a1, bd_some]
      exact ⟨M1, rfl, a2, a3⟩
    rw [if_neg k4]
    by_cases k7 : k = 7
    · rw [if_pos k7, h, bd_some, h2, bd_some]
      obtain ⟨M1, a1, a2, a3⟩ := num
      rw [a1, bd_some]
      exact ⟨M1, rfl, a2, a3⟩
    rw [if_neg k7]
    refine ⟨B, rfl, ?_, fB⟩
    unfold cv
    rw [B0, B1, B2, B3, B4, ← hk]
    exact cn_eq (fun _ => rfl) (fun _ => rfl) (fun _ => rfl) (fun _ => rfl) (fun z => absurd z k0) (fun z => absurd z (fun q => q.elim k1 (fun q => q.elim k4 k7)))
theorem ce_store {w : Int32} : ∃ M1, f_Cell_storeBytes M c w = some M1 ∧ cv M1 c = s_bare (if (cv M c).1 = 0 then (cv M c).2.2.2.2.2.1 ||| w else if (cv M c).1 = 1 then 255 ||| w else w) ∧ fr (cP c) M M1 := by
  have e0 : (cv M c).1 = mI M 10 c 0 := rfl
  unfold f_Cell_storeBytes
  rw [e0]
  by_cases g : mI M 10 c 0 = 0
  · rw [if_pos g, if_pos g]
    refine ⟨_, rfl, ?_, fr_I cP0⟩
    have e5 : (cv M c).2.2.2.2.2.1 = mI M 10 c 5 := by unfold cv cn; dsimp only; rw [if_pos g]
    rw [e5]
    unfold cv
    simp [cn, pI_I, g]
  · rw [if_neg g, if_neg g]
    by_cases g1 : mI M 10 c 0 = 1
    · rw [if_pos g1, if_pos g1]
      refine ⟨_, rfl, ?_, fr_trans (fr_trans (fr_I cP0) (fr_I cP0)) (fr_I cP0)⟩
      unfold cv
      simp [cn, pI_I]
    · rw [if_neg g1, if_neg g1]
      refine ⟨_, rfl, ?_, fr_trans (fr_trans (fr_I cP0) (fr_I cP0)) (fr_I cP0)⟩
      unfold cv
      simp [cn, pI_I]
/-! what is asked of cells -/
noncomputable def b1 (P : Prop) : Int32 := @ite _ P (Classical.propDecidable P) 1 0
theorem b1_t {P : Prop} (h : P) : b1 P = 1 := if_pos h
theorem b1_f {P : Prop} (h : ¬ P) : b1 P = 0 := if_neg h
theorem b1_0 {P : Prop} : b1 P = 0 ↔ ¬ P := by
  by_cases h : P
  · rw [b1_t h]; exact ⟨fun z => absurd z (by decide), fun z => absurd h z⟩
  · rw [b1_f h]; exact ⟨fun _ => h, fun _ => rfl⟩
theorem b1_c {P Q : Prop} (h : P ↔ Q) : b1 P = b1 Q := by rw [propext h]
theorem pf_covers {i j : Nat} : f_Num_covers M i j = some (M, b1 (fn_cov (pg M i) (pg M j))) := by
  unfold f_Num_covers fn_cov pg
  simp only [pf_below, bd_some, pf_ite1]
  by_cases g1 : ((mL M 11 i 1 ^^^ -1) &&& mL M 11 j 1) = 0
  · rw [if_pos g1]
    by_cases g2 : ((mL M 11 i 0 ^^^ mL M 11 j 0) &&& (mL M 11 i 1 ^^^ -1)) = 0
    · rw [if_pos g2]
      by_cases g3 : fn_lt (mL M 11 j 2) (mL M 11 i 2)
      · rw [if_neg (fun z => z g3), b1_f (fun z => z.2.2.1 g3)]
      · rw [if_pos g3]
        by_cases g4 : fn_lt (mL M 11 i 3) (mL M 11 j 3)
        · rw [if_neg (fun z => z g4), b1_f (fun z => z.2.2.2.1 g4)]
        · rw [if_pos g4]
          by_cases g5 : mL M 11 j 4 < mL M 11 i 4
          · rw [if_pos g5, b1_f (fun z => absurd z.2.2.2.2.1 (by rw [Int64.not_le]; exact g5))]
          · rw [if_neg g5]
            by_cases g6 : mL M 11 i 5 < mL M 11 j 5
            · rw [if_pos g6, b1_f (fun z => absurd z.2.2.2.2.2 (by rw [Int64.not_le]; exact g6))]
            · rw [if_neg g6, b1_t ⟨g1, g2, g3, g4, Int64.not_lt.mp g5, Int64.not_lt.mp g6⟩]
    · rw [if_neg g2, b1_f (fun z => g2 z.2.1)]
  · rw [if_neg g1, b1_f (fun z => g1 z.1)]
def c_ar (a b : sC) : Prop := (a.1 = 0 ∧ (a.2.2.2.2.2.1 = 0 ∨ (b.1 = 0 ∧ a.2.2.2.2.2.1 &&& (b.2.2.2.2.2.1 ^^^ -1) = 0) ∨ b.1 = 1)) ∨ (¬ a.1 = 0 ∧ a.1 = b.1 ∧ a.2.1 = b.2.1 ∧ a.2.2.1 = b.2.2.1 ∧ a.2.2.2.2.1 ≤ b.2.2.2.2.1 ∧ ((a.1 = 1 ∨ a.1 = 4 ∨ a.1 = 7) → fn_cov a.2.2.2.2.2.2 b.2.2.2.2.2.2))
theorem ce_around (h : mR M 10 c 6 = some (nu c)) (h2 : mR M 10 d 6 = some (nu d)) : f_Cell_isAround M c d = some (M, b1 (c_ar (cv M c) (cv M d))) := by
  obtain ⟨k, hk⟩ : ∃ k, k = mI M 10 c 0 := ⟨_, rfl⟩
  obtain ⟨l, hl⟩ : ∃ l, l = mI M 10 d 0 := ⟨_, rfl⟩
  unfold f_Cell_isAround f_Cell_isAround_b32 f_Cell_isAround_b33 c_ar cv cn
  rw [← hk, ← hl]
  dsimp only
  by_cases k0 : k = 0
  · rw [if_pos k0]
    have one : ¬ (1 : Int32) = 0 := by decide
    by_cases w0 : mI M 10 c 5 = 0
    · rw [b1_t (Or.inl ⟨k0, Or.inl (by rw [if_pos k0]; exact w0)⟩)]
      simp only [if_pos w0, ite_self]
    · simp only [if_neg w0, if_neg one, if_true]
      by_cases l0 : l = 0
      · rw [if_pos l0]
        have l1 : ¬ l = 1 := by rw [l0]; decide
        by_cases g : mI M 10 c 5 &&& (mI M 10 d 5 ^^^ -1) = 0
        · rw [if_pos g, b1_t (Or.inl ⟨k0, Or.inr (Or.inl ⟨l0, by rw [if_pos k0, if_pos l0]; exact g⟩)⟩)]
        · rw [if_neg g, if_neg l1]
          refine congrArg (fun z => some (M, z)) (b1_f ?_).symm
          rintro (z | z)
          · rcases z.2 with r | r | r
            · rw [if_pos k0] at r; exact w0 r
            · rw [if_pos k0, if_pos l0] at r; exact g r.2
            · exact l1 r
          · exact z.1 k0
      · rw [if_neg l0]
        by_cases l1 : l = 1
        · rw [if_pos l1, b1_t (Or.inl ⟨k0, Or.inr (Or.inr l1)⟩)]
        · rw [if_neg l1]
          refine congrArg (fun z => some (M, z)) (b1_f ?_).symm
          rintro (z | z)
          · rcases z.2 with r | r | r
            · rw [if_pos k0] at r; exact w0 r
            · exact l0 r.1
            · exact l1 r
          · exact z.1 k0
  · rw [if_neg k0]
    by_cases kl : k = l
    · rw [if_pos kl]
      have red : ∀ Q : Prop, (((k = 0 ∧ ((if k = 0 then mI M 10 c 5 else 0) = 0 ∨ l = 0 ∧ (if k = 0 then mI M 10 c 5 else 0) &&& ((if l = 0 then mI M 10 d 5 else 0) ^^^ -1) = 0 ∨ l = 1)) ∨ (¬ k = 0 ∧ k = l ∧ Q)) ↔ Q) := fun Q => ⟨fun z => z.elim (fun r => absurd r.1 k0) (fun r => r.2.2), fun q => Or.inr ⟨k0, kl, q⟩⟩
      rw [b1_c (red _)]
      subst kl
      by_cases k1 : k = 1
      · subst k1
        rw [if_pos rfl, h, bd_some, h2, bd_some, pf_covers, b2_some]
        exact congrArg (fun z => some (M, z)) (b1_c ⟨fun z => ⟨rfl, rfl, Int32.le_refl _, fun _ => z⟩, fun z => z.2.2.2 (Or.inl rfl)⟩)
      rw [if_neg k1]
      by_cases k2 : k = 2
      · subst k2
        rw [if_pos rfl]
        by_cases g : mI M 10 c 1 = mI M 10 d 1
        · rw [if_pos g, b1_t ⟨g, rfl, Int32.le_refl _, fun z => absurd z (by decide)⟩]
        · rw [if_neg g, b1_f (fun z => g z.1)]
      rw [if_neg k2]
      by_cases k3 : k = 3
      · subst k3
        rw [if_pos rfl]
        by_cases g : mI M 10 c 1 = mI M 10 d 1
        · rw [if_pos g, b1_t ⟨g, rfl, Int32.le_refl _, fun z => absurd z (by decide)⟩]
        · rw [if_neg g, b1_f (fun z => g z.1)]
      rw [if_neg k3]
      by_cases k4 : k = 4
      · subst k4
        rw [if_pos rfl]
        by_cases g : mI M 10 c 1 = mI M 10 d 1
        · rw [if_pos g]
          by_cases g2 : mI M 10 d 4 < mI M 10 c 4
          · rw [if_pos g2, b1_f (fun z => absurd z.2.2.1 (by rw [Int32.not_le]; exact g2))]
          · rw [if_neg g2, h, bd_some, h2, bd_some, pf_covers, b2_some]
            by_cases g3 : fn_cov (pg M (nu c)) (pg M (nu d))
            · rw [b1_t g3, if_neg (by decide), b1_t ⟨g, rfl, Int32.not_lt.mp g2, fun _ => g3⟩]
            · rw [b1_f g3, if_pos rfl, b1_f (fun z => g3 (z.2.2.2 (Or.inr (Or.inl rfl))))]
        · rw [if_neg g, b1_f (fun z => g z.1)]
      rw [if_neg k4]
      by_cases k5 : k = 5
      · subst k5
        rw [if_pos rfl, b1_t ⟨rfl, rfl, Int32.le_refl _, fun z => absurd z (by decide)⟩]
      rw [if_neg k5]
      by_cases k6 : k = 6
      · subst k6
        rw [if_pos rfl]
        by_cases g : mI M 10 c 2 = mI M 10 d 2
        · rw [if_pos g, b1_t ⟨rfl, g, Int32.le_refl _, fun z => absurd z (by decide)⟩]
        · rw [if_neg g, b1_f (fun z => g z.2.1)]
      rw [if_neg k6]
      by_cases k7 : k = 7
      · subst k7
        rw [if_pos rfl]
        by_cases g : mI M 10 c 1 = mI M 10 d 1
        · rw [if_pos g]
          by_cases g2 : mI M 10 c 2 = mI M 10 d 2
          · rw [if_pos g2, h, bd_some, h2, bd_some, pf_covers, b2_some]
            by_cases g3 : fn_cov (pg M (nu c)) (pg M (nu d))
            · rw [b1_t g3, if_neg (by decide), b1_t ⟨g, g2, Int32.le_refl _, fun _ => g3⟩]
            · rw [b1_f g3, if_pos rfl, b1_f (fun z => g3 (z.2.2.2 (Or.inr (Or.inr rfl))))]
          · rw [if_neg g2, b1_f (fun z => g2 z.2.1)]
        · rw [if_neg g, b1_f (fun z => g z.1)]
      rw [if_neg k7]
      by_cases k8 : k = 8
      · subst k8
        rw [if_pos rfl]
        by_cases g : mI M 10 c 2 = mI M 10 d 2
        · rw [if_pos g, b1_t ⟨rfl, g, Int32.le_refl _, fun z => absurd z (by decide)⟩]
        · rw [if_neg g, b1_f (fun z => g z.2.1)]
      rw [if_neg k8, b1_t]
      refine ⟨?_, ?_, ?_, ?_⟩
      · rw [if_neg (fun z => z.elim k2 (fun z => z.elim k3 (fun z => z.elim k4 k7))), if_neg (fun z => z.elim k2 (fun z => z.elim k3 (fun z => z.elim k4 k7)))]
      · rw [if_neg (fun z => z.elim k6 (fun z => z.elim k7 k8)), if_neg (fun z => z.elim k6 (fun z => z.elim k7 k8))]
      · rw [if_neg k4, if_neg k4]; exact Int32.le_refl _
      · exact fun z => absurd z (fun z => z.elim k1 (fun z => z.elim k4 k7))
    · rw [if_neg kl, b1_f (fun z => z.elim (fun r => k0 r.1) (fun r => kl r.2.1))]
theorem ce_ident : f_Cell_hasIdentity M c = some (M, if (cv M c).1 = 4 ∨ (cv M c).1 = 8 then 1 else 0) := by
  unfold f_Cell_hasIdentity
  show _ = some (M, if mI M 10 c 0 = 4 ∨ mI M 10 c 0 = 8 then 1 else 0)
  by_cases g : mI M 10 c 0 = 4 <;> by_cases g2 : mI M 10 c 0 = 8 <;> simp [g, g2]
theorem ce_ptr : f_Cell_isPointer M c = some (M, if (cv M c).1 = 2 ∨ (cv M c).1 = 3 ∨ (cv M c).1 = 4 ∨ (cv M c).1 = 7 then 1 else 0) := by
  unfold f_Cell_isPointer
  show _ = some (M, if mI M 10 c 0 = 2 ∨ mI M 10 c 0 = 3 ∨ mI M 10 c 0 = 4 ∨ mI M 10 c 0 = 7 then 1 else 0)
  by_cases g : mI M 10 c 0 = 2 <;> by_cases g2 : mI M 10 c 0 = 3 <;> by_cases g3 : mI M 10 c 0 = 4 <;> by_cases g4 : mI M 10 c 0 = 7 <;> simp [g, g2, g3, g4]
theorem ce_ofp : f_Cell_isOfPacket M c = some (M, if (cv M c).1 = 4 ∨ (cv M c).1 = 5 then 1 else 0) := by
  unfold f_Cell_isOfPacket
  show _ = some (M, if mI M 10 c 0 = 4 ∨ mI M 10 c 0 = 5 then 1 else 0)
  by_cases g : mI M 10 c 0 = 4 <;> by_cases g2 : mI M 10 c 0 = 5 <;> simp [g, g2]
theorem cv_n (h : (cv M c).1 = 1 ∨ (cv M c).1 = 4 ∨ (cv M c).1 = 7) : (cv M c).2.2.2.2.2.2 = pg M (nu c) := by
  have h2 : mI M 10 c 0 = 1 ∨ mI M 10 c 0 = 4 ∨ mI M 10 c 0 = 7 := h
  unfold cv cn
  dsimp only
  rw [if_pos h2]
theorem ce_zero (h : mR M 10 c 6 = some (nu c)) : f_Cell_isZero M c = some (M, if (cv M c).1 = 1 ∧ (cv M c).2.2.2.2.2.2.2.1 = 0 ∧ (cv M c).2.2.2.2.2.2.1 = 0 then 1 else 0) := by
  unfold f_Cell_isZero
  have e0 : mI M 10 c 0 = (cv M c).1 := rfl
  rw [e0]
  by_cases g : (cv M c).1 = 1
  · rw [if_pos g, h, bd_some, pf_isExact1, b2_some, cv_n (Or.inl g)]
    by_cases g2 : mL M 11 (nu c) 1 = 0 ∧ mL M 11 (nu c) 0 = 0
    · rw [if_pos g2, if_neg (by decide), if_pos (show (cv M c).1 = 1 ∧ (pg M (nu c)).2.1 = 0 ∧ (pg M (nu c)).1 = 0 from ⟨g, g2⟩)]
    · rw [if_neg g2, if_pos rfl, if_neg (show ¬ ((cv M c).1 = 1 ∧ (pg M (nu c)).2.1 = 0 ∧ (pg M (nu c)).1 = 0) from fun z => g2 z.2)]
  · rw [if_neg g, if_neg (fun z => g z.1)]
theorem ce_able {w : Int32} : f_Cell_isReadable M c w = some (M, if (cv M c).1 = 1 ∨ ((cv M c).1 = 0 ∧ (cv M c).2.2.2.2.2.1 &&& w = w) then 1 else 0) := by
  unfold f_Cell_isReadable
  have e0 : mI M 10 c 0 = (cv M c).1 := rfl
  rw [e0]
  by_cases g : (cv M c).1 = 1
  · rw [if_pos g, if_pos (Or.inl g)]
  · rw [if_neg g]
    by_cases g0 : (cv M c).1 = 0
    · have e5 : (cv M c).2.2.2.2.2.1 = mI M 10 c 5 := by
        have g1 : mI M 10 c 0 = 0 := g0
        unfold cv cn; dsimp only; rw [if_pos g1]
      rw [if_pos g0, e5]
      by_cases g2 : mI M 10 c 5 &&& w = w
      · rw [if_pos g2, if_pos (Or.inr ⟨g0, g2⟩)]
      · rw [if_neg g2, if_neg (fun z => z.elim g (fun q => g2 q.2))]
    · rw [if_neg g0, if_neg (fun z => z.elim g (fun q => g0 q.1))]
end CE
