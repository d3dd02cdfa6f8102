/-! PURE: the reference's stack: bytes and slots. -/
/-- a place of the stack, by its number from below -/
def pS (r : Nat) : Int32 := nI r - 512
theorem pS_t1 : ∀ r, r < 512 → (pS r + 512) / 8 = nI (r / 8) ∧ jirem (pS r + 512) 8 = nI (r % 8) ∧ pS r &&& 7 = nI (r % 8) ∧ jishr ((-1) - pS r) 3 = nI (63 - r / 8) := by decide +kernel
theorem pS_of {p : Int32} (h1 : -512 ≤ p.toInt) (h2 : p.toInt ≤ -1) : ∃ r, r < 512 ∧ p = pS r ∧ (r : Int) = p.toInt + 512 := by
  obtain ⟨r, hr⟩ : ∃ r : Nat, (r : Int) = p.toInt + 512 := ⟨(p.toInt + 512).toNat, by omega⟩
  refine ⟨r, by omega, ?_, hr⟩
  apply Int32.toInt_inj.mp
  unfold pS
  rw [Int32.toInt_sub, nI_int (by omega), show (512 : Int32).toInt = 512 from rfl, hr, Int.bmod_def]
  show _ = if (p.toInt + 512 - 512) % 4294967296 < (4294967296 + 1) / 2 then _ else _
  omega
theorem pS_add {r j : Nat} : pS r + nI j = pS (r + j) := by
  unfold pS
  rw [← nI_add, Int32.sub_eq_add_neg, Int32.sub_eq_add_neg, Int32.add_assoc, Int32.add_comm (-512), ← Int32.add_assoc]
theorem pS_sl {r : Nat} (h : r < 512) : sl (pS r) = 74 - r / 8 := by
  unfold sl
  rw [(pS_t1 r h).2.2.2, nI_tn (by omega)]
  omega
/-- k bits from b on -/
def mb : Nat → Nat → Int32
  | _, 0 => 0
  | b, k + 1 => jishl 1 (nI b) ||| mb (b + 1) k
theorem mb_t : ∀ b, b < 8 → jishl ((jishl 1 1) - 1) (nI b) = mb b 1 ∧ (b % 2 = 0 → jishl ((jishl 1 2) - 1) (nI b) = mb b 2) ∧ (b % 4 = 0 → jishl ((jishl 1 4) - 1) (nI b) = mb b 4) ∧ (b % 8 = 0 → jishl ((jishl 1 8) - 1) (nI b) = mb b 8) := by decide +kernel
theorem and_or_iff {W x y : Int32} : W &&& (x ||| y) = x ||| y ↔ (W &&& x = x ∧ W &&& y = y) := by
  have t : ∀ {z : Int32}, W &&& z = z ↔ ∀ i, i < 32 → z.toBitVec.getLsbD i = true → W.toBitVec.getLsbD i = true := by
    intro z
    rw [← Int32.toBitVec_inj, Int32.toBitVec_and]
    constructor
    · intro e i hi hz
      have := congrArg (fun v : BitVec 32 => v.getLsbD i) e
      simp only [BitVec.getLsbD_and, hz, Bool.and_true] at this
      exact this
    · intro g
      apply BitVec.eq_of_getLsbD_eq
      intro i hi
      rw [BitVec.getLsbD_and]
      cases hz : z.toBitVec.getLsbD i with
      | false => rw [Bool.and_false]
      | true => rw [g i hi hz]; rfl
  rw [t, t, t]
  constructor
  · intro g
    constructor
    · intro i hi hz
      exact g i hi (by rw [Int32.toBitVec_or, BitVec.getLsbD_or, hz, Bool.true_or])
    · intro i hi hz
      exact g i hi (by rw [Int32.toBitVec_or, BitVec.getLsbD_or, hz, Bool.or_true])
  · intro g i hi hz
    rw [Int32.toBitVec_or, BitVec.getLsbD_or] at hz
    cases hx : x.toBitVec.getLsbD i with
    | true => exact g.1 i hi hx
    | false => rw [hx, Bool.false_or] at hz; exact g.2 i hi hz
theorem bit_i {W : Int32} {b : Nat} (hb : b < 8) : (jishr W (nI b) &&& 1 = 1) ↔ W &&& jishl 1 (nI b) = jishl 1 (nI b) := by
  have e1 : (jishr W (nI b) &&& 1 = 1) ↔ W.toBitVec.getLsbD b = true := by
    have : ∀ w : BitVec 32, ∀ b, b < 8 → ((w.sshiftRight b &&& 1#32 = 1#32) ↔ w.getLsbD b = true) := by
      intro w b hb
      constructor
      · intro e
        have := congrArg (fun v : BitVec 32 => v.getLsbD 0) e
        simp only [BitVec.getLsbD_and, BitVec.getLsbD_sshiftRight] at this
        simpa [show b < 32 by omega] using this
      · intro e
        apply BitVec.eq_of_getLsbD_eq
        intro i hi
        rw [BitVec.getLsbD_and]
        by_cases g : i = 0
        · subst g
          rw [BitVec.getLsbD_sshiftRight]
          simp [e, show b < 32 by omega]
        · have z : (1#32).getLsbD i = false := by simp [BitVec.getLsbD_one, g]
          rw [z, Bool.and_false]
    have tb : (jishr W (nI b)).toBitVec = W.toBitVec.sshiftRight b := by
      have kk : ∀ b, b < 8 → ∀ w : Int32, (jishr w (nI b)).toBitVec = w.toBitVec.sshiftRight b := by
        intro b hb w
        unfold jishr
        rw [Int32.toBitVec_shiftRight]
        have : ∀ b, b < 8 → ((nI b).toBitVec.smod 32).toNat = b := by decide
        have h2 : ∀ b, b < 8 → ((nI b &&& 31).toBitVec.smod 32).toNat = b := by decide
        first
          | rw [BitVec.sshiftRight_eq', this b hb]
          | rw [BitVec.sshiftRight_eq', h2 b hb]
      exact kk b hb W
    rw [← Int32.toBitVec_inj, Int32.toBitVec_and, tb]
    exact this W.toBitVec b hb
  have e2 : (W &&& jishl 1 (nI b) = jishl 1 (nI b)) ↔ W.toBitVec.getLsbD b = true := by
    have s : ∀ b, b < 8 → ∀ i, i < 32 → (jishl 1 (nI b)).toBitVec.getLsbD i = decide (i = b) := by decide
    rw [← Int32.toBitVec_inj, Int32.toBitVec_and]
    constructor
    · intro e
      have := congrArg (fun v : BitVec 32 => v.getLsbD b) e
      simp only [BitVec.getLsbD_and, s b hb b (by omega)] at this
      simpa using this
    · intro g
      apply BitVec.eq_of_getLsbD_eq
      intro i hi
      rw [BitVec.getLsbD_and, s b hb i hi]
      by_cases z : i = b
      · rw [z, g]; simp
      · simp [z]
  rw [e1, e2]
section RN
variable {M M1 M2 : me_M} {c : Int64}
theorem rv_s {r : Nat} (h : r < 512) : rv M 0 (sl (pS r)) = it M (mI M 13 10 (r / 8)) (11 + r / 8) := by
  rw [pS_sl h, rv_g (by omega), show 74 - (74 - r / 8) = r / 8 by omega, show 85 - (74 - r / 8) = 11 + r / 8 by omega]
theorem r_slot {r : Nat} (h : r < 512) : f_M_slotOf (pS r) = some (nI (r / 8)) := congrArg some (pS_t1 r h).1
theorem n11 {q : Nat} : 11 + nI q = nI (11 + q) := by
  rw [show (11 : Int32) = nI 11 from rfl, nI_add]
theorem r_isw (h : ps_M M) {r : Nat} (hr : r < 512) : f_M_isWritten M 0 (pS r) = some (M, if mI M 13 10 (r / 8) &&& jishl 1 (nI (r % 8)) = jishl 1 (nI (r % 8)) then 1 else 0) := by
  unfold f_M_isWritten
  rw [rs_58 h, bd_some, r_slot hr, bd_some, rz_13_10 h, gd_pos (ix_ok (by omega) (by decide)), nI_tn (by omega), (pS_t1 r hr).2.1]
  by_cases g : jishr (mI M 13 10 (r / 8)) (nI (r % 8)) &&& 1 = 1
  · rw [if_pos g, if_pos ((bit_i (by omega)).mp g)]
  · rw [if_neg g, if_neg (fun z => g ((bit_i (by omega)).mpr z))]
theorem r_iss (h : ps_M M) {r : Nat} (hr : r < 512) : f_M_isSaved M 0 (pS r) = some (M, if cK (rv M 0 (sl (pS r))) = 0 then 0 else 1) := by
  unfold f_M_isSaved
  rw [rs_47 h, bd_some, r_slot hr, bd_some, n11, rz_14_8 h, gd_pos (ix_ok (by omega) (by decide)), nI_tn (by omega), rv_s hr]
  show (if mI M 14 8 (11 + r / 8) = 0 then some (M, (0 : Int32)) else some (M, 1)) = some (M, if mI M 14 8 (11 + r / 8) = 0 then 0 else 1)
  by_cases g : mI M 14 8 (11 + r / 8) = 0
  · rw [if_pos g, if_pos g]
  · rw [if_neg g, if_neg g]
theorem rd_l (h : ps_M M) {x : Int32} {n r : Nat} : ∀ (k j fu : Nat), j + k = n → k < fu → n ≤ 8 → r % 8 + n ≤ 8 → r < 512 → f_M_loadStack_l62 0 x (pS r) (nI n) fu M (nI j) = if mI M 13 10 (r / 8) &&& mb (r % 8 + j) k = mb (r % 8 + j) k then bd (f_M_toRead M 0 x (nI n)) (fun M2 => some (M2, (0 : Int32))) else some (M, 15) := by
  intro k
  induction k with
  | zero =>
    intro j fu e hf hn hb hr
    obtain ⟨fu, rfl⟩ : ∃ f, fu = f + 1 := ⟨fu - 1, by omega⟩
    rw [f_M_loadStack_l62, if_pos ((nI_lei (by omega) (by omega)).mpr (by omega)), if_pos (by unfold mb; exact Int32.and_zero)]
  | succ k ih =>
    intro j fu e hf hn hb hr
    obtain ⟨fu, rfl⟩ : ∃ f, fu = f + 1 := ⟨fu - 1, by omega⟩
    rw [f_M_loadStack_l62, if_neg (fun z => by have := (nI_lei (by omega) (by omega)).mp z; omega), pS_add, r_isw h (by omega), b2_some, show (r + j) / 8 = r / 8 by omega, show (r + j) % 8 = r % 8 + j by omega, nI_s]
    have e2 : mb (r % 8 + j) (k + 1) = jishl 1 (nI (r % 8 + j)) ||| mb (r % 8 + (j + 1)) k := rfl
    rw [e2]
    by_cases g : mI M 13 10 (r / 8) &&& jishl 1 (nI (r % 8 + j)) = jishl 1 (nI (r % 8 + j))
    · rw [if_pos g, if_neg (by decide), ih (j + 1) fu (by omega) (by omega) hn hb hr]
      by_cases g2 : mI M 13 10 (r / 8) &&& mb (r % 8 + (j + 1)) k = mb (r % 8 + (j + 1)) k
      · rw [if_pos g2, if_pos (and_or_iff.mpr ⟨g, g2⟩)]
      · rw [if_neg g2, if_neg (fun z => g2 (and_or_iff.mp z).2)]
    · rw [if_neg g, if_pos rfl, if_neg (fun z => g (and_or_iff.mp z).1)]
/-- n bytes at place r lie in one slot -/
def al (n r : Nat) : Prop := (n = 1 ∨ n = 2 ∨ n = 4 ∨ n = 8) ∧ r % n = 0
theorem al_8 {n r : Nat} (h : al n r) : r % 8 + n ≤ 8 ∧ n ≤ 8 := by
  rcases h with ⟨q | q | q | q, e⟩ <;> subst q <;> omega
theorem al_m {n r : Nat} (h : al n r) (hr : r < 512) : jishl ((jishl 1 (nI n)) - 1) (pS r &&& 7) = mb (r % 8) n := by
  rw [(pS_t1 r hr).2.2.1]
  obtain ⟨m1, m2, m3, m4⟩ := mb_t (r % 8) (by omega)
  rcases h with ⟨q | q | q | q, e⟩ <;> subst q
  · exact m1
  · exact m2 (by omega)
  · exact m3 (by omega)
  · exact m4 (by omega)
theorem rload_s (h : ps_M M) (hk : kv M) {x : Int32} {i n r : Nat} (hx : ok x i) (ha : al n r) (hr : r < 512) : ∃ M1 q, f_M_loadStack M 0 x (pS r) (nI n) = some (M1, q) ∧ rf (fun f => f = i) mT M M1 ∧ kv M1 ∧ ((¬ cK (rv M 0 (sl (pS r))) = 0 ∧ n = 8) → q = 0 ∧ it M1 0 i = rv M 0 (sl (pS r))) ∧ (¬ (¬ cK (rv M 0 (sl (pS r))) = 0 ∧ n = 8) → (c_able (rv M 0 (sl (pS r))) (mb (r % 8) n) → q = 0 ∧ it M1 0 i = s_num (fn_rd (nI n))) ∧ (¬ c_able (rv M 0 (sl (pS r))) (mb (r % 8) n) → q = 15 ∧ M1 = M)) := by
  have hn := ha.1
  have hn2 : nI n = 1 ∨ nI n = 2 ∨ nI n = 4 ∨ nI n = 8 := by rcases hn with z | z | z | z <;> subst z <;> decide
  have n8 : nI n = 8 ↔ n = 8 := by rcases hn with z | z | z | z <;> subst z <;> decide
  have rd : ∀ P : Prop, ∃ M1 q, bd (f_M_toRead M 0 x (nI n)) (fun M2 => some (M2, (0 : Int32))) = some (M1, q) ∧ rf (fun f => f = i) mT M M1 ∧ kv M1 ∧ (q = 0 ∧ it M1 0 i = s_num (fn_rd (nI n))) := by
    intro _
    rw [pi_toRead h hx hn2, bd_some]
    refine ⟨_, 0, rfl, rf_trans (rf_ii rfl) (rf_rt rfl), kv_rt (kv_ii (n := 1) hk (by decide)), rfl, ?_⟩
    rw [it_both]
    rfl
  have e0 : rv M 0 (sl (pS r)) = it M (mI M 13 10 (r / 8)) (11 + r / 8) := rv_s hr
  have ek : mI M 14 8 (11 + r / 8) = cK (rv M 0 (sl (pS r))) := by rw [e0]; rfl
  unfold f_M_loadStack
  rw [r_slot hr, bd_some, st_eq, n11, r_iss h hr, b2_some]
  by_cases g0 : cK (rv M 0 (sl (pS r))) = 0
  · have ew : cW (rv M 0 (sl (pS r))) = mI M 13 10 (r / 8) := by
      rw [← ek] at g0
      rw [e0]
      unfold it cn
      exact if_pos g0
    rw [if_pos g0, if_pos rfl, show (0 : Int32) = nI 0 from rfl, rd_l h n 0 fuel (by omega) (by unfold fuel; rcases hn with z | z | z | z <;> omega) (al_8 ha).2 (al_8 ha).1 hr, Nat.add_zero]
    by_cases g : mI M 13 10 (r / 8) &&& mb (r % 8) n = mb (r % 8) n
    · rw [if_pos g]
      obtain ⟨M1, q, a1, a2, a3, a4⟩ := rd True
      exact ⟨M1, q, a1, a2, a3, fun z => absurd g0 z.1, fun _ => ⟨fun _ => a4, fun z => absurd (Or.inr ⟨g0, by rw [ew]; exact g⟩) z⟩⟩
    · rw [if_neg g]
      refine ⟨M, 15, rfl, rf_refl, hk, fun z => absurd g0 z.1, fun _ => ⟨fun z => ?_, fun _ => ⟨rfl, rfl⟩⟩⟩
      rcases z with z | z
      · rw [g0] at z; exact absurd z (by decide)
      · rw [ew] at z; exact absurd z.2 g
  · rw [if_neg g0, if_neg (by decide)]
    have n1 : ¬ (¬ cK (rv M 0 (sl (pS r))) = 0 ∧ n = 8) → (n = 1 ∨ n = 2 ∨ n = 4) := by
      intro z
      rcases hn with q | q | q | q
      · exact Or.inl q
      · exact Or.inr (Or.inl q)
      · exact Or.inr (Or.inr q)
      · exact absurd ⟨g0, q⟩ z
    by_cases g8 : n = 8
    · have l8 : 8 ≤ nI n := by rw [g8]; decide
      unfold f_M_loadStack_b35
      rw [if_pos l8, if_pos (n8.mpr g8)]
      obtain ⟨M1, a1, a2, a3, a4⟩ := it_c (kv_b hk) h (ok_n (show 11 + r / 8 < 30081 by omega)) hx
      rw [a1, bd_some]
      refine ⟨M1, 0, rfl, a3, kv_f (S := mT) hk a3 a4, fun _ => ⟨rfl, ?_⟩, fun z => absurd ⟨g0, g8⟩ z⟩
      rw [a2, e0]
      rw [← ek] at g0
      unfold it cn
      rw [if_neg g0, if_neg g0]
    · have l8 : ¬ 8 ≤ nI n := by rcases n1 (fun z => g8 z.2) with z | z | z <;> subst z <;> decide
      unfold f_M_loadStack_b35
      rw [if_neg l8, pi_isNumber h (ok_n (show 11 + r / 8 < 30081 by omega)), b2_some, ek, if_neg (fun z => g8 (n8.mp z))]
      by_cases g1 : cK (rv M 0 (sl (pS r))) = 1
      · rw [if_pos g1, if_neg (by decide)]
        obtain ⟨M1, q, a1, a2, a3, a4⟩ := rd True
        exact ⟨M1, q, a1, a2, a3, fun z => absurd z.2 g8, fun _ => ⟨fun _ => a4, fun z => absurd (Or.inl g1) z⟩⟩
      · rw [if_neg g1, if_pos rfl]
        exact ⟨M, 15, rfl, rf_refl, hk, fun z => absurd z.2 g8, fun _ => ⟨fun z => z.elim (fun q => absurd q g1) (fun q => absurd q.1 g0), fun _ => ⟨rfl, rfl⟩⟩⟩
end RN
