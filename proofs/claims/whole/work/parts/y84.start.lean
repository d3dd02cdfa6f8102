theorem o_839 : Cond.laysStatic "java/lang/Throwable" "UNASSIGNED_STACK" "[Ljava/lang/StackTraceElement;" ∈ lw_tbl := List.mem_of_getElem? (i := 839) (by decide +kernel)
theorem o_841 : Cond.laysStatic "java/lang/Throwable" "SUPPRESSED_SENTINEL" "Ljava/util/List;" ∈ lw_tbl := List.mem_of_getElem? (i := 841) (by decide +kernel)
theorem o_196 : Cond.initialized "java/lang/Throwable" ∈ lw_tbl := List.mem_of_getElem? (i := 196) (by decide +kernel)
theorem o_181 : Cond.initialized "FilterGuard" ∈ lw_tbl := List.mem_of_getElem? (i := 181) (by decide +kernel)
theorem o_962 : Cond.laysStatic "FilterGuard" "SIZES" "[I" ∈ lw_tbl := List.mem_of_getElem? (i := 962) (by decide +kernel)
theorem o_972 : Cond.laysStatic "FilterGuard" "OPERATIONS" "[I" ∈ lw_tbl := List.mem_of_getElem? (i := 972) (by decide +kernel)
theorem o_978 : Cond.laysStatic "FilterGuard" "RELATIONS" "[I" ∈ lw_tbl := List.mem_of_getElem? (i := 978) (by decide +kernel)
theorem o_1324 : Cond.laysStatic "FilterGuard" "CONTRARY" "[I" ∈ lw_tbl := List.mem_of_getElem? (i := 1324) (by decide +kernel)
theorem u_205 : Cond.instantiable "FilterGuard" 14 ∈ fg_g := fg_in (List.mem_of_getElem? (i := 205) (by decide +kernel)) rfl
theorem u_1735 : Cond.instantiable "FilterGuardModel" 75 ∈ fg_g := fg_in (List.mem_of_getElem? (i := 1735) (by decide +kernel)) rfl
theorem u_204 : Cond.classLink "FilterGuardLaw" 8 "FilterGuard" ∈ fg_g := fg_in (List.mem_of_getElem? (i := 204) (by decide +kernel)) rfl
theorem d_Law_law_0 : decode code 0 = .ok (.new 8, 3) := by decide +kernel
theorem d_Law_law_3 : decode code 3 = .ok (.dup, 1) := by decide +kernel
theorem u_206 : Cond.methodLink "FilterGuardLaw" 49 ⟨"FilterGuard", "<init>", "()V"⟩ ∈ fg_g := fg_in (List.mem_of_getElem? (i := 206) (by decide +kernel)) rfl
theorem u_207 : Cond.instanceMethod ⟨"FilterGuard", "<init>", "()V"⟩ ∈ fg_g := fg_in (List.mem_of_getElem? (i := 207) (by decide +kernel)) rfl
theorem u_208 : Cond.code ⟨"FilterGuard", "<init>", "()V"⟩ prog_1_method_1_code 1 none ∈ fg_g := fg_in (List.mem_of_getElem? (i := 208) (by decide +kernel)) rfl
theorem d_Law_law_4 : decode code 4 = .ok (.invokespecial 49, 3) := by decide +kernel
theorem d_Law_law_7 : decode code 7 = .ok (.astore_n 1, 1) := by decide +kernel
theorem u_1734 : Cond.classLink "FilterGuardLaw" 50 "FilterGuardModel" ∈ fg_g := fg_in (List.mem_of_getElem? (i := 1734) (by decide +kernel)) rfl
theorem d_Law_law_8 : decode code 8 = .ok (.new 50, 3) := by decide +kernel
theorem d_Law_law_11 : decode code 11 = .ok (.dup, 1) := by decide +kernel
theorem u_1736 : Cond.methodLink "FilterGuardLaw" 52 ⟨"FilterGuardModel", "<init>", "()V"⟩ ∈ fg_g := fg_in (List.mem_of_getElem? (i := 1736) (by decide +kernel)) rfl
theorem u_1737 : Cond.instanceMethod ⟨"FilterGuardModel", "<init>", "()V"⟩ ∈ fg_g := fg_in (List.mem_of_getElem? (i := 1737) (by decide +kernel)) rfl
theorem u_1738 : Cond.code ⟨"FilterGuardModel", "<init>", "()V"⟩ prog_14_method_1_code 1 none ∈ fg_g := fg_in (List.mem_of_getElem? (i := 1738) (by decide +kernel)) rfl
theorem d_Law_law_12 : decode code 12 = .ok (.invokespecial 52, 3) := by decide +kernel
theorem d_Law_law_15 : decode code 15 = .ok (.astore_n 2, 1) := by decide +kernel
theorem d_Law_law_16 : decode code 16 = .ok (.iconst 1, 1) := by decide +kernel
theorem d_Law_law_17 : decode code 17 = .ok (.newarray .long, 2) := by decide +kernel
theorem d_Law_law_19 : decode code 19 = .ok (.astore_n 3, 1) := by decide +kernel
theorem d_Law_law_20 : decode code 20 = .ok (.iconst 0, 1) := by decide +kernel
theorem d_Law_law_21 : decode code 21 = .ok (.istore 4, 2) := by decide +kernel
/-! The law from its entry: the two objects are made, then its loop begins. -/
def me_0 : me_M := (fun _ _ _ => 0, fun _ _ _ => 0, fun _ _ _ => none, fun _ => 0, fun _ _ => 0)
theorem me_W0 {ad : Nat → Nat → Nat} {ca : Nat → ClassId} : me_W ad ca me_0 = [] := rfl
theorem me_wf0 : me_wf (fun _ => 0) me_0 := ⟨rfl, fun k j f t h => (by cases h), fun j i => (by show fits .byte (.int 0) = true; decide), fun k j f h => Or.inr rfl⟩
theorem lw_eqi {args : Array Value} {s : State} {tm : Term} {z : Int32} (h : (Cond.eq tm (.int z)).before args s = true) : tm.eval args s none [] s = some (.int z) := by
  have hz : (Term.int z).eval args s none [] s = some (.int z) := rfl
  cases hv : tm.eval args s none [] s with
  | none => simp [Cond.before, Cond.holds, Cond.value, hv] at h
  | some w =>
    simp only [Cond.before, Cond.holds, Cond.value, hv, hz] at h
    cases w <;> simp_all
theorem lw_len {args : Array Value} {s : State} {t : Term} {v : Value} (h : (Term.length t).eval args s none [] s = some v) : ∃ a cell, t.eval args s none [] s = some (.ref a) ∧ s.arrayAt? a = some cell ∧ cell.slots.size < 2147483648 := by
  obtain ⟨a, cell, h1, h2, h3⟩ := Term.length_spec h
  refine ⟨a, cell, h1, h2, ?_⟩
  rcases Nat.lt_or_ge cell.slots.size 2147483648 with q | q
  · exact q
  · exfalso
    simp [Term.eval, h1, h2, Nat.not_lt.mpr q] at h
theorem lw_all {Fl : List Cond} {args : Array Value} {s : State} (hs : ∀ w ∈ Fl, w.before args s = true) {f : Nat → Cond} {n : Nat} (h : ∀ q ∈ List.range n, f q ∈ Fl) : ∀ j, j < n → (f j).before args s = true := fun j hj => hs _ (h j (List.mem_range.mpr hj))
/-- a static array of ints, by the words of the start -/
theorem fz_of {n : String} {L : Nat} {xs : Nat → Int32} {args : Array Value} {s : State} {A : Nat → Prop} (hL : L < 2 ^ 31) (hl : (Cond.laysStatic "FilterGuard" n "[I").before args s = true) (hini : (Cond.initialized "FilterGuard").before args s = true) (harr : (Cond.arrayOf (.static "FilterGuard" n "[I") .int).before args s = true) (hlen : (Cond.eq (.length (.static "FilterGuard" n "[I")) (.int (Int32.ofNat L))).before args s = true)
    (hel : ∀ j : Nat, j < L → (Cond.eq (.elem (.static "FilterGuard" n "[I") (.int (Int32.ofNat j))) (.int (xs j))).before args s = true) (hA : ∀ a : Nat, a < s.heap.size → ¬ A a) : fz_1 n L xs A s s.heap := by
  have e1 := lw_eqi hlen
  obtain ⟨t, ht, cell, c1, c2, c3, c4, c5, c6, c7⟩ := va_Tof (f := fun j => .int (xs j)) hL harr e1 (fun j hj => lw_eqi (hel j hj)) hA
  obtain ⟨a, cell', a1, a2, a3⟩ := lw_len e1
  have hat : a = t := by
    have h9 := Option.some.inj (a1.symm.trans ht)
    injection h9
  subst hat
  have hc9 : cell' = cell := Option.some.inj ((State.arrayAt?_spec a2).1.symm.trans c1)
  subst hc9
  have hsz : cell'.slots.size = L := (nI_eq (by omega) hL).mp c5
  exact ⟨a, va_Zref hl hini ht hA, ⟨cell', c1, c2, c3, hsz, c6⟩, c7, (Array.getElem?_eq_some_iff.mp c1).1⟩
set_option maxHeartbeats 8000000 in
set_option maxRecDepth 100000 in
theorem lw_begin {p : Program} {e : Env} {s : Jvm.State} {m : MethodId} {below : List Frame} {meth : Method} {c : Code} (l : Launch) (hl9 : l.stackTraces = false) {b L : Nat} {xs : Nat → Int32} (hL : L ≤ 3072) (C0 : lw_At p s m meth c b L xs) (Inv : Nat → me_M → me_M → Prop) {MG RG : me_M} (hG : f_G_init (nO me_0 0) 0 = some MG) (hR9 : f_M_init (nO me_0 1) 0 = some RG) (hN3 : me_cN (me_N1 (mN MG) 16) ≤ me_CL ∧ me_sN (me_N1 (mN MG) 16) ≤ me_SL) (hI0 : Inv 0 (nA MG 16 1) RG)
    (hstep : ∀ (i : Nat) (M R : me_M), Inv i M R → i + 6 ≤ L → ∃ M1 R1, lw_Step xs i (mN MG 16) M R M1 R1 ∧ Inv (i + 6) M1 R1) : W p l e room_1 s m #[Value.ref b] below meth c s.heap [] 0 0 (lw_Z below #[Value.ref b] s) (entryFrame m ([Value.ref b] : List Value).toArray 8) := by
  obtain ⟨hx, hb, hr, hml, hown0, hts0, hXs, hbl, hlocks, hgv⟩ := id C0
  have hown : s.vm.findClass "FilterGuardLaw" = some m.cls := hown0
  have hts : ∀ w ∈ fg_g, w.before #[Value.ref b] s = true := fun w hw => hts0 w (List.mem_filter.mp hw).1
  have hX : fg_X s := fg_X.of hts0
  have hs := flat_of_before _ hgv
  have hy : fg_Y s := fg_Y.of hts0 (va_Nc.of (hs (.not (.castable "java/lang/IllegalStateException" "java/lang/IllegalArgumentException")) (by decide +kernel)))
  obtain ⟨A, hAe⟩ : ∃ A : Nat → Prop, A = fun q => s.heap.size ≤ q := ⟨_, rfl⟩
  have hA : ∀ q : Nat, s.heap.size ≤ q → A q := fun q h => by rw [hAe]; exact h
  have hA2 : ∀ q : Nat, A q → s.heap.size ≤ q := fun q h => by rw [hAe] at h; exact h
  have hA3 : ∀ a : Nat, a < s.heap.size → ¬ A a := fun a h z => absurd (hA2 a z) (Nat.not_le.mpr h)
  have hbA : ¬ A b := hA3 b hbl
  have hz0 : fg_Z0 A s s.heap := ⟨⟨va_Zqof (hts0 _ o_839) (hts0 _ o_196) (hs (.isRef (.static "java/lang/Throwable" "UNASSIGNED_STACK" "[Ljava/lang/StackTraceElement;")) (by decide +kernel)) hA3, va_Zqof (hts0 _ o_841) (hts0 _ o_196) (hs (.isRef (.static "java/lang/Throwable" "SUPPRESSED_SENTINEL" "Ljava/util/List;")) (by decide +kernel)) hA3⟩, fg_LS.of (hts0 _ o_839) hA3, fg_LS.of (hts0 _ o_841) hA3⟩
  have z_SIZES : fz_1 "SIZES" 4 fz_s A s s.heap := fz_of (by decide) (hts0 _ o_962) (hts0 _ o_181) (hs (.arrayOf (.static "FilterGuard" "SIZES" "[I") .int) (by decide +kernel)) (hs (.eq (.length (.static "FilterGuard" "SIZES" "[I")) (.int 4)) (by decide +kernel)) (lw_all hs (f := fun j => Cond.eq (.elem (.static "FilterGuard" "SIZES" "[I") (.int (Int32.ofNat j))) (.int (fz_s j))) (by decide +kernel)) hA3
  have z_OPERATIONS : fz_1 "OPERATIONS" 16 fz_o A s s.heap := fz_of (by decide) (hts0 _ o_972) (hts0 _ o_181) (hs (.arrayOf (.static "FilterGuard" "OPERATIONS" "[I") .int) (by decide +kernel)) (hs (.eq (.length (.static "FilterGuard" "OPERATIONS" "[I")) (.int 16)) (by decide +kernel)) (lw_all hs (f := fun j => Cond.eq (.elem (.static "FilterGuard" "OPERATIONS" "[I") (.int (Int32.ofNat j))) (.int (fz_o j))) (by decide +kernel)) hA3
  have z_RELATIONS : fz_1 "RELATIONS" 16 fz_r A s s.heap := fz_of (by decide) (hts0 _ o_978) (hts0 _ o_181) (hs (.arrayOf (.static "FilterGuard" "RELATIONS" "[I") .int) (by decide +kernel)) (hs (.eq (.length (.static "FilterGuard" "RELATIONS" "[I")) (.int 16)) (by decide +kernel)) (lw_all hs (f := fun j => Cond.eq (.elem (.static "FilterGuard" "RELATIONS" "[I") (.int (Int32.ofNat j))) (.int (fz_r j))) (by decide +kernel)) hA3
  have z_CONTRARY : fz_1 "CONTRARY" 12 fz_k A s s.heap := fz_of (by decide) (hts0 _ o_1324) (hts0 _ o_181) (hs (.arrayOf (.static "FilterGuard" "CONTRARY" "[I") .int) (by decide +kernel)) (hs (.eq (.length (.static "FilterGuard" "CONTRARY" "[I")) (.int 12)) (by decide +kernel)) (lw_all hs (f := fun j => Cond.eq (.elem (.static "FilterGuard" "CONTRARY" "[I") (.int (Int32.ofNat j))) (.int (fz_k j))) (by decide +kernel)) hA3
  have hz : fg_Z A s s.heap := ⟨hz0, z_SIZES, z_OPERATIONS, z_RELATIONS, z_CONTRARY⟩
  obtain ⟨c0, iS0, hKn0⟩ := u_known (C := "FilterGuard") (T := F_G) (N := 14) (n := 14) hts i_G (hts _ u_205)
  obtain ⟨c1, iS1, hKn1⟩ := u_known (C := "FilterGuardModel") (T := F_M) (N := 75) (n := 75) hts i_M (hts _ u_1735)
  obtain ⟨c2, iS2, hKn2⟩ := u_known (C := "FilterGuard$Code") (T := F_Code) (N := 16) (n := 16) hts i_Code (hts _ u_215)
  obtain ⟨c3, iS3, hKn3⟩ := u_known (C := "FilterGuard$Facts") (T := F_Facts) (N := 7) (n := 7) hts i_Facts (hts _ u_313)
  obtain ⟨c4, iS4, hKn4⟩ := u_known (C := "FilterGuard$Explorer") (T := F_Explorer) (N := 15) (n := 15) hts i_Explorer (hts _ u_342)
  obtain ⟨c5, iS5, hKn5⟩ := u_known (C := "FilterGuard$Machine") (T := F_Machine) (N := 20) (n := 20) hts i_Machine (hts _ u_597)
  obtain ⟨c6, iS6, hKn6⟩ := u_known (C := "FilterGuard$Checks") (T := F_Checks) (N := 4) (n := 4) hts i_Checks (hts _ u_603)
  obtain ⟨c7, iS7, hKn7⟩ := u_known (C := "FilterGuard$Steps") (T := F_Steps) (N := 19) (n := 19) hts i_Steps (hts _ u_350)
  obtain ⟨c8, iS8, hKn8⟩ := u_known (C := "FilterGuard$Reckoner") (T := F_Reckoner) (N := 5) (n := 5) hts i_Reckoner (hts _ u_356)
  obtain ⟨c9, iS9, hKn9⟩ := u_known (C := "FilterGuard$State") (T := F_State) (N := 5) (n := 5) hts i_State (hts _ u_515)
  obtain ⟨c10, iS10, hKn10⟩ := u_known (C := "FilterGuard$Cell") (T := F_Cell) (N := 7) (n := 7) hts i_Cell (hts _ u_413)
  obtain ⟨c11, iS11, hKn11⟩ := u_known (C := "FilterGuard$Num") (T := F_Num) (N := 6) (n := 6) hts i_Num (hts _ u_362)
  obtain ⟨c12, iS12, hKn12⟩ := u_known (C := "FilterGuard$Store") (T := F_Store) (N := 7) (n := 7) hts i_Store (hts _ u_895)
  obtain ⟨D, hKc⟩ : ∃ D : va_G, ∀ (k : Nat) (q : vw_C), classes[k]? = some q → u_Kn s q.1 q.2.1 q.2.2 (D.1 k) (D.2 k) := by
    refine ⟨(fun k => [c0, c1, c2, c3, c4, c5, c6, c7, c8, c9, c10, c11, c12].getD k c0, fun k => [iS0, iS1, iS2, iS3, iS4, iS5, iS6, iS7, iS8, iS9, iS10, iS11, iS12].getD k iS0), ?_⟩
    intro k q hq
    match k, hq with
    | 0, hq => cases hq; exact hKn0
    | 1, hq => cases hq; exact hKn1
    | 2, hq => cases hq; exact hKn2
    | 3, hq => cases hq; exact hKn3
    | 4, hq => cases hq; exact hKn4
    | 5, hq => cases hq; exact hKn5
    | 6, hq => cases hq; exact hKn6
    | 7, hq => cases hq; exact hKn7
    | 8, hq => cases hq; exact hKn8
    | 9, hq => cases hq; exact hKn9
    | 10, hq => cases hq; exact hKn10
    | 11, hq => cases hq; exact hKn11
    | 12, hq => cases hq; exact hKn12
    | k + 13, hq => simp [classes] at hq
  obtain ⟨a13, k13, p13, x13, y13, w13⟩ := Cond.arrayClass_spec (hts _ u_340)
  have K13 : ArrOfT s a13 .int ∧ va_RA s a13 .int := ⟨fun N z => ⟨(fun k h => by cases h), k13, y13, p13, w13⟩, x13⟩
  obtain ⟨a14, k14, p14, x14, y14, w14⟩ := Cond.arrayClass_spec (hts _ u_309)
  have K14 : ArrOfT s a14 .byte ∧ va_RA s a14 .byte := ⟨fun N z => ⟨(fun k h => by cases h), k14, y14, p14, w14⟩, x14⟩
  obtain ⟨a15, k15, p15, x15, y15, w15⟩ := Cond.arrayClass_spec (hts _ u_311)
  have K15 : ArrOfT s a15 .boolean ∧ va_RA s a15 .boolean := ⟨fun N z => ⟨(fun k h => by cases h), k15, y15, p15, w15⟩, x15⟩
  obtain ⟨a16, k16, p16, x16, y16, w16⟩ := Cond.arrayClass_spec (hts _ u_310)
  have K16 : ArrOfT s a16 .long ∧ va_RA s a16 .long := ⟨fun N z => ⟨(fun k h => by cases h), k16, y16, p16, w16⟩, x16⟩
  obtain ⟨p17, a17, k17, v17, -, y17, w17, x17⟩ := Cond.arrayOver_spec (hts0 _ o_348)
  have K17 : ArrOfT s a17 (.object "FilterGuard$State") ∧ va_RA s a17 (.object "FilterGuard$State") := ⟨fun N z => ⟨(fun k h => by cases h), k17, y17, p17, w17⟩, ⟨k17, p17, y17, w17, v17, x17⟩⟩
  obtain ⟨p18, a18, k18, v18, -, y18, w18, x18⟩ := Cond.arrayOver_spec (hts0 _ o_521)
  have K18 : ArrOfT s a18 (.object "FilterGuard$Cell") ∧ va_RA s a18 (.object "FilterGuard$Cell") := ⟨fun N z => ⟨(fun k h => by cases h), k18, y18, p18, w18⟩, ⟨k18, p18, y18, w18, v18, x18⟩⟩
  obtain ⟨p19, a19, k19, v19, -, y19, w19, x19⟩ := Cond.arrayOver_spec (hts0 _ o_213)
  have K19 : ArrOfT s a19 (.object "FilterGuard$Store") ∧ va_RA s a19 (.object "FilterGuard$Store") := ⟨fun N z => ⟨(fun k h => by cases h), k19, y19, p19, w19⟩, ⟨k19, p19, y19, w19, v19, x19⟩⟩
  obtain ⟨ca, e13, e14, e15, e16, e17, e18, e19⟩ : ∃ ca : Nat → ClassId, ca 13 = a13 ∧ ca 14 = a14 ∧ ca 15 = a15 ∧ ca 16 = a16 ∧ ca 17 = a17 ∧ ca 18 = a18 ∧ ca 19 = a19 := ⟨fun k => [a13, a14, a15, a16, a17, a18, a19].getD (k - 13) a13, rfl, rfl, rfl, rfl, rfl, rfl, rfl⟩
  have hK : va_K D classes (me_T ca) s := by
    refine ⟨hKc, fun k q h => ?_⟩
    match k, h with
    | 0, h => cases h; dsimp only; rw [e13]; exact K13
    | 1, h => cases h; dsimp only; rw [e14]; exact K14
    | 2, h => cases h; dsimp only; rw [e15]; exact K15
    | 3, h => cases h; dsimp only; rw [e16]; exact K16
    | 4, h => cases h; dsimp only; rw [e17]; exact K17
    | 5, h => cases h; dsimp only; rw [e18]; exact K18
    | 6, h => cases h; dsimp only; rw [e19]; exact K19
    | k + 7, h => simp [me_T] at h
  have hCL : me_CL = 100000 := rfl
  have hSL : me_SL = 3000000 := rfl
  have hS : va_S A s.heap s.heap [] := va_S.rf
  have hP : va_P D classes ([] ++ me_W (fun _ _ => 0) ca me_0) s.heap := fun k q h => by rw [me_W0] at h; simp at h
  have hD : va_D A ([] ++ me_W (fun _ _ => 0) ca me_0) := by rw [me_W0]; exact ⟨fun i j p q h => by simp at h, fun k q h => by simp at h⟩
  have hl := lv_entry ([.ref b]) (n := 8) (Nat.le_of_ble_eq_true rfl)
  rw [lg_entry_eq]
  generalize (lg_sl ([.ref b]) ++ List.replicate (8 - (lg_sl ([.ref b])).length) Slot.unset).toArray = ls at hl ⊢
  have hl : lv_has ls 8 [(0, .ref b)] := hl
  refine lw_new (ad := fun _ _ => 0) (ca := ca) (M := me_0) (M1 := nO me_0 0) (N := fun _ => 0) (k := 0) (fs := [.null, .int 0, .null, .int 0, .null, .null, .null, .null, .null, .int 0, .int 0, .int 0, .int 0, .int 0]) (C := "FilterGuard") (T := F_G) (Nf := 14) rfl hx hb hts i_G t_G t_G_ok hown (hts _ u_204) (hts _ u_205) (hts _ u_181) hK hP hD me_wf0 hS hA (by decide) rfl z_G rfl (by show 0 + 1 ≤ 601024; decide) (by show 0 + 14 ≤ 7293034; decide) d_Law_law_0 (fun ad1 H hext1 hwf1 hP hD hS => ?_)
  refine lv_dup hx hb d_Law_law_3 rfl ?_
  have hP : va_P D classes (me_W ad1 ca (nO me_0 0) ++ []) H := by rw [List.append_nil]; exact hP
  have hD : va_D A (me_W ad1 ca (nO me_0 0) ++ []) := by rw [List.append_nil]; exact hD
  have hn1 : me_cN (me_N1 (fun _ => 0) 0) = 1 := by decide
  have hn2 : me_sN (me_N1 (fun _ => 0) 0) = 14 := by decide
  refine lw_Mav (N := me_N1 (fun _ => 0) 0) (M1 := MG) (al_runI (k := 0) (j := 0) (As := []) (rest := [.ref (ad1 0 0)]) ⟨hx, hb, hml, hown, hts⟩ (c_G_init l D ad1 ca _ _ MG 0 hG hwf1 ⟨by rw [hn1, hCL]; decide, by rw [hn2, hSL]; decide⟩ (by decide) _) rfl (by show fg_nm y_G_init 0; decide +kernel) u_206 u_207 u_181 u_208 ⟨Nat.le_of_ble_eq_true rfl, Nat.le_of_ble_eq_true rfl⟩ hX hz.2 hK (fk_Pl hP) (fk_Dl hD) hS hA rfl hl.1 (Nat.le_of_ble_eq_true rfl) d_Law_law_4 (by show 0 + 1 + (me_CL - me_cN (me_N1 (fun _ => 0) 0)) ≤ 601024 ∧ 0 + 14 + (me_SL - me_sN (me_N1 (fun _ => 0) 0)) ≤ 7293034; rw [hn1, hn2, hCL, hSL]; decide)) hP hD hK hS hA (fun ad2 H locs hw _ hP hD hS => ?_)
  obtain ⟨hwf, hok, hext2⟩ := hw
  obtain ⟨k1, k2, k3, k4, k5⟩ := hok
  rw [hn1] at k1
  rw [hn2] at k2
  obtain ⟨NG, hNG⟩ : ∃ z, z = mN MG := ⟨_, rfl⟩
  rw [← hNG] at hwf k1 k2 k3 k4 k5 hN3 hstep
  refine W.widen (k := me_cN NG) (n := me_sN NG) (by rw [← hNG, hn1]; omega) (by rw [← hNG, hn2]; omega) ?_
  rw [← hext2 0 0 (by decide)]
  refine lv_astore_n (lv' := [(1, .ref (ad2 0 0)), (0, .ref b)]) hx hb d_Law_law_7 rfl hl (by decide) rfl (fun ls hl => ?_)
  have hP : va_P D classes (me_W ad2 ca MG ++ me_W (fun _ _ => 0) ca me_0) H := by rw [me_W0]; exact hP
  have hD : va_D A (me_W ad2 ca MG ++ me_W (fun _ _ => 0) ca me_0) := by rw [me_W0]; exact hD
  refine lw_new (ad := fun _ _ => 0) (ca := ca) (M := me_0) (M1 := nO me_0 1) (N := fun _ => 0) (k := 1) (fs := [.int 0, .null, .int 0, .int 0, .int 0, .null, .null, .null, .null, .null, .null, .null, .int 0, .null, .int 0, .int 0, .null, .null, .int 0, .int 0, .int 0, .int 0, .int 0, .int 0, .int 0, .int 0, .int 0, .null, .null, .null, .null, .null, .null, .null, .int 0, .null, .null, .long 0, .int 0, .null, .int 0, .int 0, .int 0, .null, .null, .null, .null, .null, .null, .null, .null, .null, .null, .null, .null, .null, .null, .null, .null, .int 0, .null, .null, .int 0, .null, .null, .int 0, .null, .null, .int 0, .int 0, .int 0, .null, .null, .null, .int 0]) (C := "FilterGuardModel") (T := F_M) (Nf := 75) rfl hx hb hts i_M t_M t_M_ok hown (hts _ u_1734) (hts _ u_1735) (hts _ u_192) hK hP hD me_wf0 hS hA (by decide) rfl z_M rfl (by show me_cN NG + 1 ≤ 601024; omega) (by show me_sN NG + 75 ≤ 7293034; omega) d_Law_law_8 (fun bd1 H hext3 hwr1 hP hD hS => ?_)
  refine lv_dup hx hb d_Law_law_11 rfl ?_
  have hr1 : me_cN (me_N1 (fun _ => 0) 1) = 1 := by decide
  have hr2 : me_sN (me_N1 (fun _ => 0) 1) = 75 := by decide
  refine lw_Rav (N := me_N1 (fun _ => 0) 1) (R1 := RG) (al_runI (k := 1) (j := 0) (As := []) (rest := [.ref (bd1 1 0)]) ⟨hx, hb, hml, hown, hts⟩ (c_M_init l D bd1 ca _ _ RG 0 hR9 hwr1 ⟨by rw [hr1, hCL]; decide, by rw [hr2, hSL]; decide⟩ (by decide) _) rfl (by show fg_nm y_M_init 0; decide +kernel) u_1736 u_1737 u_192 u_1738 ⟨Nat.le_of_ble_eq_true rfl, Nat.le_of_ble_eq_true rfl⟩ hX hz.2 hK (fk_Pr hP) (fk_Dr hD) hS hA rfl hl.1 (Nat.le_of_ble_eq_true rfl) d_Law_law_12 (by show me_cN NG + 1 + (me_CL - me_cN (me_N1 (fun _ => 0) 1)) ≤ 601024 ∧ me_sN NG + 75 + (me_SL - me_sN (me_N1 (fun _ => 0) 1)) ≤ 7293034; rw [hr1, hr2]; omega)) hP hD hK hS hA (fun bd2 H locs hw _ hP hD hS => ?_)
  obtain ⟨hwr, hokr, hext4⟩ := hw
  obtain ⟨r1, r2, r3, r4, r5⟩ := hokr
  rw [hr1] at r1
  rw [hr2] at r2
  obtain ⟨NR, hNR⟩ : ∃ z, z = mN RG := ⟨_, rfl⟩
  rw [← hNR] at hwr r1 r2 r3 r4 r5
  refine W.widen (k := me_cN NG + me_cN NR) (n := me_sN NG + me_sN NR) (by rw [← hNR, hr1]; omega) (by rw [← hNR, hr2]; omega) ?_
  rw [← hext4 1 0 (by decide)]
  refine lv_astore_n (lv' := [(2, .ref (bd2 1 0)), (1, .ref (ad2 0 0)), (0, .ref b)]) hx hb d_Law_law_15 rfl hl (by decide) rfl (fun ls hl => ?_)
  refine lv_iconst (v := 1) hx hb d_Law_law_16 (by decide) ?_
  have hP : va_P D classes (me_W bd2 ca RG ++ me_W ad2 ca MG) H := fk_Pp List.perm_append_comm hP
  have hD : va_D A (me_W bd2 ca RG ++ me_W ad2 ca MG) := fk_Dp List.perm_append_comm hD
  refine lw_newl (M1 := nA MG 16 1) (n := 1) (congrArg (nA MG 16) (by decide)) hx hb (hts _ u_310) hK hP hD hwf hS hA (by decide) (by decide) (by show me_cN NG + me_cN NR + 1 ≤ 601024; omega) (by show me_sN NG + me_sN NR + 1 ≤ 7293034; omega) d_Law_law_17 (fun ad3 H hext5 hwf3 hP hD hS => ?_)
  have hP : va_P D classes (me_W ad3 ca (nA MG 16 1) ++ me_W bd2 ca RG) H := fk_Pp List.perm_append_comm hP
  have hD : va_D A (me_W ad3 ca (nA MG 16 1) ++ me_W bd2 ca RG) := fk_Dp List.perm_append_comm hD
  have h3c := me_cN1 (N := NG) (k := 16) (by decide)
  have h3s : me_sN (me_N1 NG 16) = me_sN NG + 30081 := me_sN1 (N := NG) (k := 16) (by decide)
  refine W.widen (k := me_cN NG + me_cN NR + 1) (n := me_sN NG + me_sN NR + 1) (Nat.le_refl _) (Nat.le_refl _) ?_
  refine lv_astore_n (lv' := [(3, .ref (ad3 16 (NG 16))), (2, .ref (bd2 1 0)), (1, .ref (ad2 0 0)), (0, .ref b)]) hx hb d_Law_law_19 rfl hl (by decide) rfl (fun ls hl => ?_)
  refine lv_iconst (v := 0) hx hb d_Law_law_20 (by decide) ?_
  refine lv_istore (lv' := [(4, .int 0), (3, .ref (ad3 16 (NG 16))), (2, .ref (bd2 1 0)), (1, .ref (ad2 0 0)), (0, .ref b)]) hx hb d_Law_law_21 hl (by decide) rfl (fun ls hl => ?_)
  have hN0 : 0 < NG 0 := Nat.lt_of_lt_of_le (by decide : 0 < me_N1 (fun _ => 0) 0 0) (k5 0)
  rw [← hext5 0 0 hN0] at hl
  have hl : lv_has ls 8 [(4, .int (nI 0)), (3, .ref (ad3 16 (NG 16))), (2, .ref (bd2 1 0)), (1, .ref (ad3 0 0)), (0, .ref b)] := hl
  exact lw_loop Inv (me_cN NR) (me_sN NR) (by omega) (by omega) hr hlocks hA2 hl9 hx hb hml hown hts hX hz hy hXs hbl hbA hA hK hL (Nat.lt_of_lt_of_le (by decide : 0 < me_N1 (fun _ => 0) 1 1) (r5 1)) hstep 3072 0 ad3 (me_N1 NG 16) (nA MG 16 1) RG H locs ls _ _ (by omega) (Nat.zero_le _) hI0 hwf3 hwr hN3 hN0 (by show NG 16 < NG 16 + 1; exact Nat.lt_succ_self _) hP hD hS hl (by omega) (by omega)
