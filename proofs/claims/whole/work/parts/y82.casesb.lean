theorem d_Law_law_353 : decode code 353 = .ok (.aload_n 1, 1) := by decide +kernel
theorem d_Law_law_354 : decode code 354 = .ok (.aload_n 0, 1) := by decide +kernel
theorem d_Law_law_355 : decode code 355 = .ok (.iload 4, 2) := by decide +kernel
theorem d_Law_law_357 : decode code 357 = .ok (.iconst 1, 1) := by decide +kernel
theorem d_Law_law_358 : decode code 358 = .ok (.iadd, 1) := by decide +kernel
theorem d_Law_law_359 : decode code 359 = .ok (.iaload, 1) := by decide +kernel
theorem d_Law_law_360 : decode code 360 = .ok (.invokevirtual 72, 3) := by decide +kernel
theorem u_762 : Cond.methodLink "FilterGuardLaw" 72 ⟨"FilterGuard", "about", "(I)I"⟩ ∈ fg_g := fg_in (List.mem_of_getElem? (i := 762) (by decide +kernel)) rfl
theorem u_765 : Cond.code ⟨"FilterGuard", "about", "(I)I"⟩ prog_1_method_6_code 2 (some .int) ∈ fg_g := fg_in (List.mem_of_getElem? (i := 765) (by decide +kernel)) rfl
theorem u_763 : Cond.instanceMethod ⟨"FilterGuard", "about", "(I)I"⟩ ∈ fg_g := fg_in (List.mem_of_getElem? (i := 763) (by decide +kernel)) rfl
theorem u_764 : Cond.selects "FilterGuard" ⟨"FilterGuard", "about", "(I)I"⟩ ⟨"FilterGuard", "about", "(I)I"⟩ ∈ fg_g := fg_in (List.mem_of_getElem? (i := 764) (by decide +kernel)) rfl
theorem d_Law_law_363 : decode code 363 = .ok (.aload_n 2, 1) := by decide +kernel
theorem d_Law_law_364 : decode code 364 = .ok (.aload_n 0, 1) := by decide +kernel
theorem d_Law_law_365 : decode code 365 = .ok (.iload 4, 2) := by decide +kernel
theorem d_Law_law_367 : decode code 367 = .ok (.iconst 1, 1) := by decide +kernel
theorem d_Law_law_368 : decode code 368 = .ok (.iadd, 1) := by decide +kernel
theorem d_Law_law_369 : decode code 369 = .ok (.iaload, 1) := by decide +kernel
theorem d_Law_law_370 : decode code 370 = .ok (.invokevirtual 75, 3) := by decide +kernel
theorem u_2403 : Cond.methodLink "FilterGuardLaw" 75 ⟨"FilterGuardModel", "about", "(I)I"⟩ ∈ fg_g := fg_in (List.mem_of_getElem? (i := 2403) (by decide +kernel)) rfl
theorem u_2406 : Cond.code ⟨"FilterGuardModel", "about", "(I)I"⟩ prog_14_method_111_code 2 (some .int) ∈ fg_g := fg_in (List.mem_of_getElem? (i := 2406) (by decide +kernel)) rfl
theorem u_2404 : Cond.instanceMethod ⟨"FilterGuardModel", "about", "(I)I"⟩ ∈ fg_g := fg_in (List.mem_of_getElem? (i := 2404) (by decide +kernel)) rfl
theorem u_2405 : Cond.selects "FilterGuardModel" ⟨"FilterGuardModel", "about", "(I)I"⟩ ⟨"FilterGuardModel", "about", "(I)I"⟩ ∈ fg_g := fg_in (List.mem_of_getElem? (i := 2405) (by decide +kernel)) rfl
theorem d_Law_law_373 : decode code 373 = .ok (.if_icmp .eq 656, 3) := by decide +kernel
set_option maxHeartbeats 4000000 in
set_option maxRecDepth 100000 in
theorem law_3 {p : Program} {l : Launch} {e : Env} {s : Jvm.State} {m : MethodId} {below : List Frame} {meth : Method} {c : Code} {b L i : Nat} {xs : Nat → Int32} {A : Nat → Prop} {D : va_G} {ca : Nat → ClassId} {ad bd : Nat → Nat → Nat} {N NR : Nat → Nat} {M M1 R R1 : me_M} {jo : Nat} {H : Heap} {locs : List Loc} {ls : Array Slot} {cells slots : Nat} {Q : Jvm.State → Prop} {r : Int32} (hl9 : l.stackTraces = false) (hx : p.tables.exec = Jvm.exec) (hb : c.code = code) (hml : c.maxLocals = 8) (hown : s.vm.findClass "FilterGuardLaw" = some m.cls) (hts : ∀ w ∈ fg_g, w.before #[Value.ref b] s = true) (hX : fg_X s) (hz : fg_Z A s s.heap) (hy : fg_Y s) (hXs : va_X b L xs s s.heap) (hbl : b < s.heap.size) (hbA : ¬ A b) (hA : ∀ q : Nat, s.heap.size ≤ q → A q) (hK : va_K D classes (me_T ca) s) (hL : L ≤ 3072) (hi : i + 6 ≤ L) (hwf : me_wf N M) (hwr : me_wf NR R) (hcl : me_cN N ≤ me_CL ∧ me_sN N ≤ me_SL) (h00 : 0 < N 0) (h10 : 0 < NR 1) (hjo : jo < N 16) (hP : va_P D classes (me_W ad ca M ++ me_W bd ca R) H) (hD : va_D A (me_W ad ca M ++ me_W bd ca R)) (hS : va_S A s.heap H locs) (hl : lv_has ls 8 [(4, .int (nI i)), (3, .ref (ad 16 jo)), (2, .ref (bd 1 0)), (1, .ref (ad 0 0)), (0, .ref b)]) (hfit : cells + (me_CL - me_cN N) + 8 ≤ 601024 ∧ slots + (me_SL - me_sN N) + 48 ≤ 7293034) (e1 : f_G_about M 0 (xs (i + 1)) = some (M1, r)) (e2 : f_M_about R 0 (xs (i + 1)) = some (R1, r)) (kk : ∀ (ad1 : Nat → Nat → Nat) (N1 : Nat → Nat) (H1 : Heap) (locs1 : List Loc) (ls1 : Array Slot) (cells1 slots1 : Nat), (∀ a, N a ≤ N1 a) → me_wf N1 M1 → me_wf NR R1 → (me_cN N1 ≤ me_CL ∧ me_sN N1 ≤ me_SL) → va_P D classes (me_W ad1 ca M1 ++ me_W bd ca R1) H1 → va_D A (me_W ad1 ca M1 ++ me_W bd ca R1) → va_S A s.heap H1 locs1 → lv_has ls1 8 [(4, .int (nI i)), (3, .ref (ad1 16 jo)), (2, .ref (bd 1 0)), (1, .ref (ad1 0 0)), (0, .ref b)] → cells1 + me_cN N ≤ cells + me_cN N1 + 1 → slots1 + me_sN N ≤ slots + me_sN N1 + 6 → W p l e room_1 s m #[Value.ref b] below meth c H1 locs1 cells1 slots1 Q (F0 m 1029 ls1 [])) : W p l e room_1 s m #[Value.ref b] below meth c H locs cells slots Q (F0 m 353 ls []) := by
  refine lv_aload_n hx hb d_Law_law_353 rfl (lv_at hl 3 rfl) ?_
  refine lv_aload_n hx hb d_Law_law_354 rfl (lv_at hl 4 rfl) ?_
  refine lv_iload hx hb d_Law_law_355 (lv_at hl 0 rfl) ?_
  refine lv_iconst (v := 1) hx hb d_Law_law_357 (by decide) ?_
  refine lv_iadd hx hb d_Law_law_358 ?_
  refine fg_topi (y := nI (i + 1)) (nI_add i 1) ?_
  refine va_sld hx hb hXs hbl hbA hS (nI_in (c := i + 1) (N := L) (by omega) (by omega)) d_Law_law_359 ?_
  refine fg_topi (y := xs (i + 1)) (by rw [nI_clamp (by omega)]) ?_
  refine lw_Mi (r0 := r) (M1 := M1) (me_runV (C := "FilterGuard") (As := [.int (xs (i + 1))]) (rest := []) ⟨hx, hb, hml, hown, hts⟩ (c_G_about l D ad ca N M M1 r 0 (xs (i + 1)) e1 hwf h00 _) rfl (by show fg_nm y_G_about 1; decide +kernel) u_762 u_763 u_764 u_181 u_765 ⟨Nat.le_of_ble_eq_true rfl, Nat.le_of_ble_eq_true rfl⟩ hX hz.2 hK (fk_Pl hP) (fk_Dl hD) hwf hS hA h00 (by decide) rfl rfl rfl hl.1 (Nat.le_of_ble_eq_true rfl) d_Law_law_360 (by exact lw_f0 hfit)) hP hD hK hS hA (fun H locs hw hP hD hS => ?_)
  refine W.widen (k := cells) (n := slots) (Nat.le_refl _) (Nat.le_refl _) ?_
  have hwf := hw.1
  refine lv_aload_n hx hb d_Law_law_363 rfl (lv_at hl 2 rfl) ?_
  refine lv_aload_n hx hb d_Law_law_364 rfl (lv_at hl 4 rfl) ?_
  refine lv_iload hx hb d_Law_law_365 (lv_at hl 0 rfl) ?_
  refine lv_iconst (v := 1) hx hb d_Law_law_367 (by decide) ?_
  refine lv_iadd hx hb d_Law_law_368 ?_
  refine fg_topi (y := nI (i + 1)) (nI_add i 1) ?_
  refine va_sld hx hb hXs hbl hbA hS (nI_in (c := i + 1) (N := L) (by omega) (by omega)) d_Law_law_369 ?_
  refine fg_topi (y := xs (i + 1)) (by rw [nI_clamp (by omega)]) ?_
  refine lw_Ri (r0 := r) (R1 := R1) (me_runV (C := "FilterGuardModel") (As := [.int (xs (i + 1))]) (rest := [.int r]) ⟨hx, hb, hml, hown, hts⟩ (c_M_about l D bd ca NR R R1 r 0 (xs (i + 1)) e2 hwr h10 _) rfl (by show fg_nm y_M_about 1; decide +kernel) u_2403 u_2404 u_2405 u_192 u_2406 ⟨Nat.le_of_ble_eq_true rfl, Nat.le_of_ble_eq_true rfl⟩ hX hz.2 hK (fk_Pr hP) (fk_Dr hD) hwr hS hA h10 (by decide) rfl rfl rfl hl.1 (Nat.le_of_ble_eq_true rfl) d_Law_law_370 (by exact lw_f0 hfit)) hP hD hK hS hA (fun H locs hw hP hD hS => ?_)
  refine W.widen (k := cells) (n := slots) (Nat.le_refl _) (Nat.le_refl _) ?_
  have hwr := hw.1
  refine lv_icmp_eq (tgt := 1029) hx hb d_Law_law_373 (by decide) (fun c9 => ?_) (fun c9 => absurd rfl c9)
  exact kk ad N _ _ _ _ _ (fun _ => Nat.le_refl _) hwf hwr hcl hP hD hS (lv_sub hl [0, 1, 2, 3, 4] rfl) (by omega) (by omega)
theorem d_Law_law_378 : decode code 378 = .ok (.aload_n 1, 1) := by decide +kernel
theorem d_Law_law_379 : decode code 379 = .ok (.aload_n 0, 1) := by decide +kernel
theorem d_Law_law_380 : decode code 380 = .ok (.iload 4, 2) := by decide +kernel
theorem d_Law_law_382 : decode code 382 = .ok (.iconst 1, 1) := by decide +kernel
theorem d_Law_law_383 : decode code 383 = .ok (.iadd, 1) := by decide +kernel
theorem d_Law_law_384 : decode code 384 = .ok (.iaload, 1) := by decide +kernel
theorem d_Law_law_385 : decode code 385 = .ok (.aload_n 0, 1) := by decide +kernel
theorem d_Law_law_386 : decode code 386 = .ok (.iload 4, 2) := by decide +kernel
theorem d_Law_law_388 : decode code 388 = .ok (.iconst 2, 1) := by decide +kernel
theorem d_Law_law_389 : decode code 389 = .ok (.iadd, 1) := by decide +kernel
theorem d_Law_law_390 : decode code 390 = .ok (.iaload, 1) := by decide +kernel
theorem d_Law_law_391 : decode code 391 = .ok (.aload_n 3, 1) := by decide +kernel
theorem d_Law_law_392 : decode code 392 = .ok (.invokestatic 76, 3) := by decide +kernel
theorem u_1478 : Cond.methodLink "FilterGuardLaw" 76 ⟨"FilterGuardLaw", "fact", "(LFilterGuard;II[J)I"⟩ ∈ fg_g := fg_in (List.mem_of_getElem? (i := 1478) (by decide +kernel)) rfl
theorem u_1480 : Cond.codeWith ⟨"FilterGuardLaw", "fact", "(LFilterGuard;II[J)I"⟩ method_5_code 5 (some .int) [(0, 9, 12, 25)] ∈ fg_g := fg_in (List.mem_of_getElem? (i := 1480) (by decide +kernel)) rfl
theorem u_1479 : Cond.static ⟨"FilterGuardLaw", "fact", "(LFilterGuard;II[J)I"⟩ ∈ fg_g := fg_in (List.mem_of_getElem? (i := 1479) (by decide +kernel)) rfl
theorem d_Law_law_395 : decode code 395 = .ok (.istore 5, 2) := by decide +kernel
theorem d_Law_law_397 : decode code 397 = .ok (.aload_n 2, 1) := by decide +kernel
theorem d_Law_law_398 : decode code 398 = .ok (.aload_n 0, 1) := by decide +kernel
theorem d_Law_law_399 : decode code 399 = .ok (.iload 4, 2) := by decide +kernel
theorem d_Law_law_401 : decode code 401 = .ok (.iconst 1, 1) := by decide +kernel
theorem d_Law_law_402 : decode code 402 = .ok (.iadd, 1) := by decide +kernel
theorem d_Law_law_403 : decode code 403 = .ok (.iaload, 1) := by decide +kernel
theorem d_Law_law_404 : decode code 404 = .ok (.aload_n 0, 1) := by decide +kernel
theorem d_Law_law_405 : decode code 405 = .ok (.iload 4, 2) := by decide +kernel
theorem d_Law_law_407 : decode code 407 = .ok (.iconst 2, 1) := by decide +kernel
theorem d_Law_law_408 : decode code 408 = .ok (.iadd, 1) := by decide +kernel
theorem d_Law_law_409 : decode code 409 = .ok (.iaload, 1) := by decide +kernel
theorem d_Law_law_410 : decode code 410 = .ok (.invokevirtual 78, 3) := by decide +kernel
theorem u_2407 : Cond.methodLink "FilterGuardLaw" 78 ⟨"FilterGuardModel", "fact", "(II)J"⟩ ∈ fg_g := fg_in (List.mem_of_getElem? (i := 2407) (by decide +kernel)) rfl
theorem u_2410 : Cond.code ⟨"FilterGuardModel", "fact", "(II)J"⟩ prog_14_method_112_code 4 (some .long) ∈ fg_g := fg_in (List.mem_of_getElem? (i := 2410) (by decide +kernel)) rfl
theorem u_2408 : Cond.instanceMethod ⟨"FilterGuardModel", "fact", "(II)J"⟩ ∈ fg_g := fg_in (List.mem_of_getElem? (i := 2408) (by decide +kernel)) rfl
theorem u_2409 : Cond.selects "FilterGuardModel" ⟨"FilterGuardModel", "fact", "(II)J"⟩ ⟨"FilterGuardModel", "fact", "(II)J"⟩ ∈ fg_g := fg_in (List.mem_of_getElem? (i := 2409) (by decide +kernel)) rfl
theorem d_Law_law_413 : decode code 413 = .ok (.lstore 6, 2) := by decide +kernel
theorem d_Law_law_415 : decode code 415 = .ok (.aload_n 2, 1) := by decide +kernel
theorem d_Law_law_416 : decode code 416 = .ok (.invokevirtual 64, 3) := by decide +kernel
theorem d_Law_law_419 : decode code 419 = .ok (.iload 5, 2) := by decide +kernel
theorem d_Law_law_421 : decode code 421 = .ok (.if_icmp .eq 5, 3) := by decide +kernel
theorem d_Law_law_426 : decode code 426 = .ok (.iload 5, 2) := by decide +kernel
theorem d_Law_law_428 : decode code 428 = .ok (.ifCond .ne 14, 3) := by decide +kernel
theorem d_Law_law_431 : decode code 431 = .ok (.aload_n 3, 1) := by decide +kernel
theorem d_Law_law_432 : decode code 432 = .ok (.iconst 0, 1) := by decide +kernel
theorem d_Law_law_433 : decode code 433 = .ok (.laload, 1) := by decide +kernel
theorem d_Law_law_434 : decode code 434 = .ok (.lload 6, 2) := by decide +kernel
theorem d_Law_law_436 : decode code 436 = .ok (.lcmp, 1) := by decide +kernel
theorem d_Law_law_437 : decode code 437 = .ok (.ifCond .eq 5, 3) := by decide +kernel
theorem d_Law_law_442 : decode code 442 = .ok (.goto 587, 3) := by decide +kernel
set_option maxHeartbeats 4000000 in
set_option maxRecDepth 100000 in
theorem law_4_0 {p : Program} {l : Launch} {e : Env} {s : Jvm.State} {m : MethodId} {below : List Frame} {meth : Method} {c : Code} {b L i : Nat} {xs : Nat → Int32} {A : Nat → Prop} {D : va_G} {ca : Nat → ClassId} {ad bd : Nat → Nat → Nat} {N NR : Nat → Nat} {M M1 R R1 : me_M} {jo : Nat} {H : Heap} {locs : List Loc} {ls : Array Slot} {cells slots : Nat} {Q : Jvm.State → Prop} {R2 : me_M} {rb : Int64} (hout : 0 < mZ M1 16 jo) (hl9 : l.stackTraces = false) (hx : p.tables.exec = Jvm.exec) (hb : c.code = code) (hml : c.maxLocals = 8) (hown : s.vm.findClass "FilterGuardLaw" = some m.cls) (hts : ∀ w ∈ fg_g, w.before #[Value.ref b] s = true) (hX : fg_X s) (hz : fg_Z A s s.heap) (hy : fg_Y s) (hXs : va_X b L xs s s.heap) (hbl : b < s.heap.size) (hbA : ¬ A b) (hA : ∀ q : Nat, s.heap.size ≤ q → A q) (hK : va_K D classes (me_T ca) s) (hL : L ≤ 3072) (hi : i + 6 ≤ L) (hwf : me_wf N M) (hwr : me_wf NR R) (hcl : me_cN N ≤ me_CL ∧ me_sN N ≤ me_SL) (h00 : 0 < N 0) (h10 : 0 < NR 1) (hjo : jo < N 16) (hP : va_P D classes (me_W ad ca M ++ me_W bd ca R) H) (hD : va_D A (me_W ad ca M ++ me_W bd ca R)) (hS : va_S A s.heap H locs) (hl : lv_has ls 8 [(4, .int (nI i)), (3, .ref (ad 16 jo)), (2, .ref (bd 1 0)), (1, .ref (ad 0 0)), (0, .ref b)]) (hfit : cells + (me_CL - me_cN N) + 8 ≤ 601024 ∧ slots + (me_SL - me_sN N) + 48 ≤ 7293034) (e1 : f_Law_fact M 0 (xs (i + 1)) (xs (i + 2)) jo = some (M1, 0)) (e2 : f_M_fact R 0 (xs (i + 1)) (xs (i + 2)) = some (R2, rb)) (e3 : f_M_thrown R2 0 = some (R1, 0)) (hob : mL M1 16 jo 0 = rb) (kk : ∀ (ad1 : Nat → Nat → Nat) (N1 : Nat → Nat) (H1 : Heap) (locs1 : List Loc) (ls1 : Array Slot) (cells1 slots1 : Nat), (∀ a, N a ≤ N1 a) → me_wf N1 M1 → me_wf NR R1 → (me_cN N1 ≤ me_CL ∧ me_sN N1 ≤ me_SL) → va_P D classes (me_W ad1 ca M1 ++ me_W bd ca R1) H1 → va_D A (me_W ad1 ca M1 ++ me_W bd ca R1) → va_S A s.heap H1 locs1 → lv_has ls1 8 [(4, .int (nI i)), (3, .ref (ad1 16 jo)), (2, .ref (bd 1 0)), (1, .ref (ad1 0 0)), (0, .ref b)] → cells1 + me_cN N ≤ cells + me_cN N1 + 1 → slots1 + me_sN N ≤ slots + me_sN N1 + 6 → W p l e room_1 s m #[Value.ref b] below meth c H1 locs1 cells1 slots1 Q (F0 m 1029 ls1 [])) : W p l e room_1 s m #[Value.ref b] below meth c H locs cells slots Q (F0 m 378 ls []) := by
  refine lv_aload_n hx hb d_Law_law_378 rfl (lv_at hl 3 rfl) ?_
  refine lv_aload_n hx hb d_Law_law_379 rfl (lv_at hl 4 rfl) ?_
  refine lv_iload hx hb d_Law_law_380 (lv_at hl 0 rfl) ?_
  refine lv_iconst (v := 1) hx hb d_Law_law_382 (by decide) ?_
  refine lv_iadd hx hb d_Law_law_383 ?_
  refine fg_topi (y := nI (i + 1)) (nI_add i 1) ?_
  refine va_sld hx hb hXs hbl hbA hS (nI_in (c := i + 1) (N := L) (by omega) (by omega)) d_Law_law_384 ?_
  refine fg_topi (y := xs (i + 1)) (by rw [nI_clamp (by omega)]) ?_
  refine lv_aload_n hx hb d_Law_law_385 rfl (lv_at hl 4 rfl) ?_
  refine lv_iload hx hb d_Law_law_386 (lv_at hl 0 rfl) ?_
  refine lv_iconst (v := 2) hx hb d_Law_law_388 (by decide) ?_
  refine lv_iadd hx hb d_Law_law_389 ?_
  refine fg_topi (y := nI (i + 2)) (nI_add i 2) ?_
  refine va_sld hx hb hXs hbl hbA hS (nI_in (c := i + 2) (N := L) (by omega) (by omega)) d_Law_law_390 ?_
  refine fg_topi (y := xs (i + 2)) (by rw [nI_clamp (by omega)]) ?_
  refine lv_aload_n hx hb d_Law_law_391 rfl (lv_at hl 1 rfl) ?_
  refine lw_Mi (r0 := 0) (M1 := M1) (al_runSH (As := [.ref (ad 0 0), .int (xs (i + 1)), .int (xs (i + 2)), .ref (ad 16 jo)]) (rest := []) ⟨hx, hb, hml, hown, hts⟩ (c_Law_fact l D ad ca N M M1 0 0 (xs (i + 1)) (xs (i + 2)) jo e1 hwf h00 hjo _) (by show fg_nm y_Law_fact 4; decide +kernel) u_1478 u_1479 u_180 u_1480 ⟨Nat.le_of_ble_eq_true rfl, Nat.le_of_ble_eq_true rfl⟩ hX (fk_Pl hP) hK (fk_Dl hD) hz hy hS hA rfl hl.1 (Nat.le_of_ble_eq_true rfl) d_Law_law_392 (by exact lw_f0 hfit)) hP hD hK hS hA (fun H locs hw hP hD hS => ?_)
  refine W.widen (k := cells) (n := slots) (Nat.le_refl _) (Nat.le_refl _) ?_
  have hwf := hw.1
  refine lv_istore (lv' := [(5, .int 0), (4, .int (nI i)), (3, .ref (ad 16 jo)), (2, .ref (bd 1 0)), (1, .ref (ad 0 0)), (0, .ref b)]) hx hb d_Law_law_395 hl (by decide) rfl (fun ls hl => ?_)
  refine lv_aload_n hx hb d_Law_law_397 rfl (lv_at hl 3 rfl) ?_
  refine lv_aload_n hx hb d_Law_law_398 rfl (lv_at hl 5 rfl) ?_
  refine lv_iload hx hb d_Law_law_399 (lv_at hl 1 rfl) ?_
  refine lv_iconst (v := 1) hx hb d_Law_law_401 (by decide) ?_
  refine lv_iadd hx hb d_Law_law_402 ?_
  refine fg_topi (y := nI (i + 1)) (nI_add i 1) ?_
  refine va_sld hx hb hXs hbl hbA hS (nI_in (c := i + 1) (N := L) (by omega) (by omega)) d_Law_law_403 ?_
  refine fg_topi (y := xs (i + 1)) (by rw [nI_clamp (by omega)]) ?_
  refine lv_aload_n hx hb d_Law_law_404 rfl (lv_at hl 5 rfl) ?_
  refine lv_iload hx hb d_Law_law_405 (lv_at hl 1 rfl) ?_
  refine lv_iconst (v := 2) hx hb d_Law_law_407 (by decide) ?_
  refine lv_iadd hx hb d_Law_law_408 ?_
  refine fg_topi (y := nI (i + 2)) (nI_add i 2) ?_
  refine va_sld hx hb hXs hbl hbA hS (nI_in (c := i + 2) (N := L) (by omega) (by omega)) d_Law_law_409 ?_
  refine fg_topi (y := xs (i + 2)) (by rw [nI_clamp (by omega)]) ?_
  refine lw_Rl (r0 := rb) (R1 := R2) (me_runV (C := "FilterGuardModel") (As := [.int (xs (i + 1)), .int (xs (i + 2))]) (rest := []) ⟨hx, hb, hml, hown, hts⟩ (c_M_fact l D bd ca NR R R2 rb 0 (xs (i + 1)) (xs (i + 2)) e2 hwr h10 _) rfl (by show fg_nm y_M_fact 2; decide +kernel) u_2407 u_2408 u_2409 u_192 u_2410 ⟨Nat.le_of_ble_eq_true rfl, Nat.le_of_ble_eq_true rfl⟩ hX hz.2 hK (fk_Pr hP) (fk_Dr hD) hwr hS hA h10 (by decide) rfl rfl rfl hl.1 (Nat.le_of_ble_eq_true rfl) d_Law_law_410 (by exact lw_f0 hfit)) hP hD hK hS hA (fun H locs hw hP hD hS => ?_)
  refine W.widen (k := cells) (n := slots) (Nat.le_refl _) (Nat.le_refl _) ?_
  have hwr := hw.1
  refine lv_lstore (lv' := [(6, .long rb), (5, .int 0), (4, .int (nI i)), (3, .ref (ad 16 jo)), (2, .ref (bd 1 0)), (1, .ref (ad 0 0)), (0, .ref b)]) hx hb d_Law_law_413 hl (by decide) rfl (fun ls hl => ?_)
  refine lv_aload_n hx hb d_Law_law_415 rfl (lv_at hl 4 rfl) ?_
  refine lw_Ri (r0 := 0) (R1 := R1) (me_runV (C := "FilterGuardModel") (As := []) (rest := []) ⟨hx, hb, hml, hown, hts⟩ (c_M_thrown l D bd ca NR R2 R1 (0 : Int32) 0 e3 hwr h10 _) rfl (by show fg_nm y_M_thrown 0; decide +kernel) u_1967 u_1968 u_1969 u_192 u_1970 ⟨Nat.le_of_ble_eq_true rfl, Nat.le_of_ble_eq_true rfl⟩ hX hz.2 hK (fk_Pr hP) (fk_Dr hD) hwr hS hA h10 (by decide) rfl rfl rfl hl.1 (Nat.le_of_ble_eq_true rfl) d_Law_law_416 (by exact lw_f0 hfit)) hP hD hK hS hA (fun H locs hw hP hD hS => ?_)
  refine W.widen (k := cells) (n := slots) (Nat.le_refl _) (Nat.le_refl _) ?_
  have hwr := hw.1
  refine lv_iload hx hb d_Law_law_419 (lv_at hl 1 rfl) ?_
  refine lv_icmp_eq (tgt := 426) hx hb d_Law_law_421 (by decide) (fun c9 => ?_) (fun c9 => absurd (by decide) c9)
  refine lv_iload hx hb d_Law_law_426 (lv_at hl 1 rfl) ?_
  refine lv_if_ne (tgt := 442) hx hb d_Law_law_428 (by decide) (fun c9 => absurd (by decide) c9) (fun c9 => ?_)
  refine lv_aload_n hx hb d_Law_law_431 rfl (lv_at hl 3 rfl) ?_
  refine lv_iconst (v := 0) hx hb d_Law_law_432 (by decide) ?_
  have hz9 : 0 < mZ M1 16 jo := hout
  refine me_lald hx hb hK (fk_Pl hP) hwf hjo (me_in (i := (0 : Int32)) (k := 0) (by decide) (by decide) hz9) d_Law_law_433 ?_
  refine fg_topl (y := mL M1 16 jo 0) (congrArg _ (by decide)) ?_
  refine lv_lload hx hb d_Law_law_434 (lv_at hl 0 rfl) ?_
  refine W.lcmp hx hb d_Law_law_436 ?_
  refine fg_topi (y := 0) ((lg_cmp_eq _ _).mpr hob) ?_
  refine lv_if_eq (tgt := 442) hx hb d_Law_law_437 (by decide) (fun c9 => ?_) (fun c9 => absurd (by decide) c9)
  refine lv_goto (tgt := 1029) hx hb d_Law_law_442 (by decide) ?_
  exact kk ad N _ _ _ _ _ (fun _ => Nat.le_refl _) hwf hwr hcl hP hD hS (lv_sub hl [2, 3, 4, 5, 6] rfl) (by omega) (by omega)
set_option maxHeartbeats 4000000 in
set_option maxRecDepth 100000 in
theorem law_4_1 {p : Program} {l : Launch} {e : Env} {s : Jvm.State} {m : MethodId} {below : List Frame} {meth : Method} {c : Code} {b L i : Nat} {xs : Nat → Int32} {A : Nat → Prop} {D : va_G} {ca : Nat → ClassId} {ad bd : Nat → Nat → Nat} {N NR : Nat → Nat} {M M1 R R1 : me_M} {jo : Nat} {H : Heap} {locs : List Loc} {ls : Array Slot} {cells slots : Nat} {Q : Jvm.State → Prop} {R2 : me_M} {rb : Int64} (hl9 : l.stackTraces = false) (hx : p.tables.exec = Jvm.exec) (hb : c.code = code) (hml : c.maxLocals = 8) (hown : s.vm.findClass "FilterGuardLaw" = some m.cls) (hts : ∀ w ∈ fg_g, w.before #[Value.ref b] s = true) (hX : fg_X s) (hz : fg_Z A s s.heap) (hy : fg_Y s) (hXs : va_X b L xs s s.heap) (hbl : b < s.heap.size) (hbA : ¬ A b) (hA : ∀ q : Nat, s.heap.size ≤ q → A q) (hK : va_K D classes (me_T ca) s) (hL : L ≤ 3072) (hi : i + 6 ≤ L) (hwf : me_wf N M) (hwr : me_wf NR R) (hcl : me_cN N ≤ me_CL ∧ me_sN N ≤ me_SL) (h00 : 0 < N 0) (h10 : 0 < NR 1) (hjo : jo < N 16) (hP : va_P D classes (me_W ad ca M ++ me_W bd ca R) H) (hD : va_D A (me_W ad ca M ++ me_W bd ca R)) (hS : va_S A s.heap H locs) (hl : lv_has ls 8 [(4, .int (nI i)), (3, .ref (ad 16 jo)), (2, .ref (bd 1 0)), (1, .ref (ad 0 0)), (0, .ref b)]) (hfit : cells + (me_CL - me_cN N) + 8 ≤ 601024 ∧ slots + (me_SL - me_sN N) + 48 ≤ 7293034) (e1 : fT3_G_fact M 0 (xs (i + 1)) (xs (i + 2)) = some M1) (e2 : f_M_fact R 0 (xs (i + 1)) (xs (i + 2)) = some (R2, rb)) (e3 : f_M_thrown R2 0 = some (R1, 1)) (kk : ∀ (ad1 : Nat → Nat → Nat) (N1 : Nat → Nat) (H1 : Heap) (locs1 : List Loc) (ls1 : Array Slot) (cells1 slots1 : Nat), (∀ a, N a ≤ N1 a) → me_wf N1 M1 → me_wf NR R1 → (me_cN N1 ≤ me_CL ∧ me_sN N1 ≤ me_SL) → va_P D classes (me_W ad1 ca M1 ++ me_W bd ca R1) H1 → va_D A (me_W ad1 ca M1 ++ me_W bd ca R1) → va_S A s.heap H1 locs1 → lv_has ls1 8 [(4, .int (nI i)), (3, .ref (ad1 16 jo)), (2, .ref (bd 1 0)), (1, .ref (ad1 0 0)), (0, .ref b)] → cells1 + me_cN N ≤ cells + me_cN N1 + 1 → slots1 + me_sN N ≤ slots + me_sN N1 + 6 → W p l e room_1 s m #[Value.ref b] below meth c H1 locs1 cells1 slots1 Q (F0 m 1029 ls1 [])) : W p l e room_1 s m #[Value.ref b] below meth c H locs cells slots Q (F0 m 378 ls []) := by
  refine lv_aload_n hx hb d_Law_law_378 rfl (lv_at hl 3 rfl) ?_
  refine lv_aload_n hx hb d_Law_law_379 rfl (lv_at hl 4 rfl) ?_
  refine lv_iload hx hb d_Law_law_380 (lv_at hl 0 rfl) ?_
  refine lv_iconst (v := 1) hx hb d_Law_law_382 (by decide) ?_
  refine lv_iadd hx hb d_Law_law_383 ?_
  refine fg_topi (y := nI (i + 1)) (nI_add i 1) ?_
  refine va_sld hx hb hXs hbl hbA hS (nI_in (c := i + 1) (N := L) (by omega) (by omega)) d_Law_law_384 ?_
  refine fg_topi (y := xs (i + 1)) (by rw [nI_clamp (by omega)]) ?_
  refine lv_aload_n hx hb d_Law_law_385 rfl (lv_at hl 4 rfl) ?_
  refine lv_iload hx hb d_Law_law_386 (lv_at hl 0 rfl) ?_
  refine lv_iconst (v := 2) hx hb d_Law_law_388 (by decide) ?_
  refine lv_iadd hx hb d_Law_law_389 ?_
  refine fg_topi (y := nI (i + 2)) (nI_add i 2) ?_
  refine va_sld hx hb hXs hbl hbA hS (nI_in (c := i + 2) (N := L) (by omega) (by omega)) d_Law_law_390 ?_
  refine fg_topi (y := xs (i + 2)) (by rw [nI_clamp (by omega)]) ?_
  refine lv_aload_n hx hb d_Law_law_391 rfl (lv_at hl 1 rfl) ?_
  refine lw_Mi (r0 := 1) (M1 := M1) (al_runSH (As := [.ref (ad 0 0), .int (xs (i + 1)), .int (xs (i + 2)), .ref (ad 16 jo)]) (rest := []) ⟨hx, hb, hml, hown, hts⟩ (cH3_Law_fact l hl9 D ad ca N M M1 0 (xs (i + 1)) (xs (i + 2)) jo e1 hwf h00 hjo _) (by show fg_nm y_Law_fact 4; decide +kernel) u_1478 u_1479 u_180 u_1480 ⟨Nat.le_of_ble_eq_true rfl, Nat.le_of_ble_eq_true rfl⟩ hX (fk_Pl hP) hK (fk_Dl hD) hz hy hS hA rfl hl.1 (Nat.le_of_ble_eq_true rfl) d_Law_law_392 (by exact lw_f1 hfit)) hP hD hK hS hA (fun H locs hw hP hD hS => ?_)
  obtain ⟨cells0, hc0⟩ : ∃ z, z = cells := ⟨_, rfl⟩
  obtain ⟨slots0, hs0⟩ : ∃ z, z = slots := ⟨_, rfl⟩
  refine W.widen (k := cells + 1) (n := slots + 6) (Nat.le_refl _) (Nat.le_refl _) ?_
  have hwf := hw
  have hfit := lw_ft hfit
  generalize hce : cells + 1 = cells1 at hfit ⊢
  generalize hse : slots + 6 = slots1 at hfit ⊢
  refine lv_istore (lv' := [(5, .int 1), (4, .int (nI i)), (3, .ref (ad 16 jo)), (2, .ref (bd 1 0)), (1, .ref (ad 0 0)), (0, .ref b)]) hx hb d_Law_law_395 hl (by decide) rfl (fun ls hl => ?_)
  refine lv_aload_n hx hb d_Law_law_397 rfl (lv_at hl 3 rfl) ?_
  refine lv_aload_n hx hb d_Law_law_398 rfl (lv_at hl 5 rfl) ?_
  refine lv_iload hx hb d_Law_law_399 (lv_at hl 1 rfl) ?_
  refine lv_iconst (v := 1) hx hb d_Law_law_401 (by decide) ?_
  refine lv_iadd hx hb d_Law_law_402 ?_
  refine fg_topi (y := nI (i + 1)) (nI_add i 1) ?_
  refine va_sld hx hb hXs hbl hbA hS (nI_in (c := i + 1) (N := L) (by omega) (by omega)) d_Law_law_403 ?_
  refine fg_topi (y := xs (i + 1)) (by rw [nI_clamp (by omega)]) ?_
  refine lv_aload_n hx hb d_Law_law_404 rfl (lv_at hl 5 rfl) ?_
  refine lv_iload hx hb d_Law_law_405 (lv_at hl 1 rfl) ?_
  refine lv_iconst (v := 2) hx hb d_Law_law_407 (by decide) ?_
  refine lv_iadd hx hb d_Law_law_408 ?_
  refine fg_topi (y := nI (i + 2)) (nI_add i 2) ?_
  refine va_sld hx hb hXs hbl hbA hS (nI_in (c := i + 2) (N := L) (by omega) (by omega)) d_Law_law_409 ?_
  refine fg_topi (y := xs (i + 2)) (by rw [nI_clamp (by omega)]) ?_
  refine lw_Rl (r0 := rb) (R1 := R2) (me_runV (C := "FilterGuardModel") (As := [.int (xs (i + 1)), .int (xs (i + 2))]) (rest := []) ⟨hx, hb, hml, hown, hts⟩ (c_M_fact l D bd ca NR R R2 rb 0 (xs (i + 1)) (xs (i + 2)) e2 hwr h10 _) rfl (by show fg_nm y_M_fact 2; decide +kernel) u_2407 u_2408 u_2409 u_192 u_2410 ⟨Nat.le_of_ble_eq_true rfl, Nat.le_of_ble_eq_true rfl⟩ hX hz.2 hK (fk_Pr hP) (fk_Dr hD) hwr hS hA h10 (by decide) rfl rfl rfl hl.1 (Nat.le_of_ble_eq_true rfl) d_Law_law_410 (by exact lw_f2 hfit)) hP hD hK hS hA (fun H locs hw hP hD hS => ?_)
  refine W.widen (k := cells1) (n := slots1) (Nat.le_refl _) (Nat.le_refl _) ?_
  have hwr := hw.1
  refine lv_lstore (lv' := [(6, .long rb), (5, .int 1), (4, .int (nI i)), (3, .ref (ad 16 jo)), (2, .ref (bd 1 0)), (1, .ref (ad 0 0)), (0, .ref b)]) hx hb d_Law_law_413 hl (by decide) rfl (fun ls hl => ?_)
  refine lv_aload_n hx hb d_Law_law_415 rfl (lv_at hl 4 rfl) ?_
  refine lw_Ri (r0 := 1) (R1 := R1) (me_runV (C := "FilterGuardModel") (As := []) (rest := []) ⟨hx, hb, hml, hown, hts⟩ (c_M_thrown l D bd ca NR R2 R1 (1 : Int32) 0 e3 hwr h10 _) rfl (by show fg_nm y_M_thrown 0; decide +kernel) u_1967 u_1968 u_1969 u_192 u_1970 ⟨Nat.le_of_ble_eq_true rfl, Nat.le_of_ble_eq_true rfl⟩ hX hz.2 hK (fk_Pr hP) (fk_Dr hD) hwr hS hA h10 (by decide) rfl rfl rfl hl.1 (Nat.le_of_ble_eq_true rfl) d_Law_law_416 (by exact lw_f2 hfit)) hP hD hK hS hA (fun H locs hw hP hD hS => ?_)
  refine W.widen (k := cells1) (n := slots1) (Nat.le_refl _) (Nat.le_refl _) ?_
  have hwr := hw.1
  refine lv_iload hx hb d_Law_law_419 (lv_at hl 1 rfl) ?_
  refine lv_icmp_eq (tgt := 426) hx hb d_Law_law_421 (by decide) (fun c9 => ?_) (fun c9 => absurd (by decide) c9)
  refine lv_iload hx hb d_Law_law_426 (lv_at hl 1 rfl) ?_
  refine lv_if_ne (tgt := 442) hx hb d_Law_law_428 (by decide) (fun c9 => ?_) (fun c9 => absurd c9 (by decide))
  refine lv_goto (tgt := 1029) hx hb d_Law_law_442 (by decide) ?_
  exact kk ad N _ _ _ _ _ (fun _ => Nat.le_refl _) hwf hwr hcl hP hD hS (lv_sub hl [2, 3, 4, 5, 6] rfl) (by omega) (by omega)
theorem d_Law_law_445 : decode code 445 = .ok (.aload_n 1, 1) := by decide +kernel
theorem d_Law_law_446 : decode code 446 = .ok (.aload_n 0, 1) := by decide +kernel
theorem d_Law_law_447 : decode code 447 = .ok (.iload 4, 2) := by decide +kernel
theorem d_Law_law_449 : decode code 449 = .ok (.iconst 1, 1) := by decide +kernel
theorem d_Law_law_450 : decode code 450 = .ok (.iadd, 1) := by decide +kernel
theorem d_Law_law_451 : decode code 451 = .ok (.iaload, 1) := by decide +kernel
theorem d_Law_law_452 : decode code 452 = .ok (.aload_n 0, 1) := by decide +kernel
theorem d_Law_law_453 : decode code 453 = .ok (.iload 4, 2) := by decide +kernel
theorem d_Law_law_455 : decode code 455 = .ok (.iconst 2, 1) := by decide +kernel
theorem d_Law_law_456 : decode code 456 = .ok (.iadd, 1) := by decide +kernel
theorem d_Law_law_457 : decode code 457 = .ok (.iaload, 1) := by decide +kernel
theorem d_Law_law_458 : decode code 458 = .ok (.ifCond .eq 7, 3) := by decide +kernel
theorem d_Law_law_465 : decode code 465 = .ok (.iconst 0, 1) := by decide +kernel
theorem d_Law_law_466 : decode code 466 = .ok (.aload_n 3, 1) := by decide +kernel
theorem d_Law_law_467 : decode code 467 = .ok (.invokestatic 79, 3) := by decide +kernel
theorem u_1506 : Cond.methodLink "FilterGuardLaw" 79 ⟨"FilterGuardLaw", "code", "(LFilterGuard;IZ[J)I"⟩ ∈ fg_g := fg_in (List.mem_of_getElem? (i := 1506) (by decide +kernel)) rfl
theorem u_1508 : Cond.codeWith ⟨"FilterGuardLaw", "code", "(LFilterGuard;IZ[J)I"⟩ method_6_code 5 (some .int) [(0, 9, 12, 25)] ∈ fg_g := fg_in (List.mem_of_getElem? (i := 1508) (by decide +kernel)) rfl
theorem u_1507 : Cond.static ⟨"FilterGuardLaw", "code", "(LFilterGuard;IZ[J)I"⟩ ∈ fg_g := fg_in (List.mem_of_getElem? (i := 1507) (by decide +kernel)) rfl
theorem d_Law_law_470 : decode code 470 = .ok (.istore 5, 2) := by decide +kernel
theorem d_Law_law_472 : decode code 472 = .ok (.aload_n 2, 1) := by decide +kernel
theorem d_Law_law_473 : decode code 473 = .ok (.aload_n 0, 1) := by decide +kernel
theorem d_Law_law_474 : decode code 474 = .ok (.iload 4, 2) := by decide +kernel
theorem d_Law_law_476 : decode code 476 = .ok (.iconst 1, 1) := by decide +kernel
theorem d_Law_law_477 : decode code 477 = .ok (.iadd, 1) := by decide +kernel
theorem d_Law_law_478 : decode code 478 = .ok (.iaload, 1) := by decide +kernel
theorem d_Law_law_479 : decode code 479 = .ok (.aload_n 0, 1) := by decide +kernel
theorem d_Law_law_480 : decode code 480 = .ok (.iload 4, 2) := by decide +kernel
theorem d_Law_law_482 : decode code 482 = .ok (.iconst 2, 1) := by decide +kernel
theorem d_Law_law_483 : decode code 483 = .ok (.iadd, 1) := by decide +kernel
theorem d_Law_law_484 : decode code 484 = .ok (.iaload, 1) := by decide +kernel
theorem d_Law_law_485 : decode code 485 = .ok (.ifCond .eq 7, 3) := by decide +kernel
theorem d_Law_law_492 : decode code 492 = .ok (.iconst 0, 1) := by decide +kernel
theorem d_Law_law_493 : decode code 493 = .ok (.invokevirtual 82, 3) := by decide +kernel
theorem u_2411 : Cond.methodLink "FilterGuardLaw" 82 ⟨"FilterGuardModel", "code", "(IZ)J"⟩ ∈ fg_g := fg_in (List.mem_of_getElem? (i := 2411) (by decide +kernel)) rfl
theorem u_2414 : Cond.code ⟨"FilterGuardModel", "code", "(IZ)J"⟩ prog_14_method_113_code 3 (some .long) ∈ fg_g := fg_in (List.mem_of_getElem? (i := 2414) (by decide +kernel)) rfl
theorem u_2412 : Cond.instanceMethod ⟨"FilterGuardModel", "code", "(IZ)J"⟩ ∈ fg_g := fg_in (List.mem_of_getElem? (i := 2412) (by decide +kernel)) rfl
theorem u_2413 : Cond.selects "FilterGuardModel" ⟨"FilterGuardModel", "code", "(IZ)J"⟩ ⟨"FilterGuardModel", "code", "(IZ)J"⟩ ∈ fg_g := fg_in (List.mem_of_getElem? (i := 2413) (by decide +kernel)) rfl
theorem d_Law_law_496 : decode code 496 = .ok (.lstore 6, 2) := by decide +kernel
theorem d_Law_law_498 : decode code 498 = .ok (.aload_n 2, 1) := by decide +kernel
theorem d_Law_law_499 : decode code 499 = .ok (.invokevirtual 64, 3) := by decide +kernel
theorem d_Law_law_502 : decode code 502 = .ok (.iload 5, 2) := by decide +kernel
theorem d_Law_law_504 : decode code 504 = .ok (.if_icmp .eq 5, 3) := by decide +kernel
theorem d_Law_law_509 : decode code 509 = .ok (.iload 5, 2) := by decide +kernel
theorem d_Law_law_511 : decode code 511 = .ok (.ifCond .ne 14, 3) := by decide +kernel
theorem d_Law_law_514 : decode code 514 = .ok (.aload_n 3, 1) := by decide +kernel
theorem d_Law_law_515 : decode code 515 = .ok (.iconst 0, 1) := by decide +kernel
theorem d_Law_law_516 : decode code 516 = .ok (.laload, 1) := by decide +kernel
theorem d_Law_law_517 : decode code 517 = .ok (.lload 6, 2) := by decide +kernel
theorem d_Law_law_519 : decode code 519 = .ok (.lcmp, 1) := by decide +kernel
theorem d_Law_law_520 : decode code 520 = .ok (.ifCond .eq 5, 3) := by decide +kernel
theorem d_Law_law_525 : decode code 525 = .ok (.goto 504, 3) := by decide +kernel
set_option maxHeartbeats 4000000 in
set_option maxRecDepth 100000 in
theorem law_5_0z0 {p : Program} {l : Launch} {e : Env} {s : Jvm.State} {m : MethodId} {below : List Frame} {meth : Method} {c : Code} {b L i : Nat} {xs : Nat → Int32} {A : Nat → Prop} {D : va_G} {ca : Nat → ClassId} {ad bd : Nat → Nat → Nat} {N NR : Nat → Nat} {M M1 R R1 : me_M} {jo : Nat} {H : Heap} {locs : List Loc} {ls : Array Slot} {cells slots : Nat} {Q : Jvm.State → Prop} {R2 : me_M} {rb : Int64} (hzb : xs (i + 2) = 0) (hout : 0 < mZ M1 16 jo) (hl9 : l.stackTraces = false) (hx : p.tables.exec = Jvm.exec) (hb : c.code = code) (hml : c.maxLocals = 8) (hown : s.vm.findClass "FilterGuardLaw" = some m.cls) (hts : ∀ w ∈ fg_g, w.before #[Value.ref b] s = true) (hX : fg_X s) (hz : fg_Z A s s.heap) (hy : fg_Y s) (hXs : va_X b L xs s s.heap) (hbl : b < s.heap.size) (hbA : ¬ A b) (hA : ∀ q : Nat, s.heap.size ≤ q → A q) (hK : va_K D classes (me_T ca) s) (hL : L ≤ 3072) (hi : i + 6 ≤ L) (hwf : me_wf N M) (hwr : me_wf NR R) (hcl : me_cN N ≤ me_CL ∧ me_sN N ≤ me_SL) (h00 : 0 < N 0) (h10 : 0 < NR 1) (hjo : jo < N 16) (hP : va_P D classes (me_W ad ca M ++ me_W bd ca R) H) (hD : va_D A (me_W ad ca M ++ me_W bd ca R)) (hS : va_S A s.heap H locs) (hl : lv_has ls 8 [(4, .int (nI i)), (3, .ref (ad 16 jo)), (2, .ref (bd 1 0)), (1, .ref (ad 0 0)), (0, .ref b)]) (hfit : cells + (me_CL - me_cN N) + 8 ≤ 601024 ∧ slots + (me_SL - me_sN N) + 48 ≤ 7293034) (e1 : f_Law_code M 0 (xs (i + 1)) (0 : Int32) jo = some (M1, 0)) (e2 : f_M_code R 0 (xs (i + 1)) (0 : Int32) = some (R2, rb)) (e3 : f_M_thrown R2 0 = some (R1, 0)) (hob : mL M1 16 jo 0 = rb) (kk : ∀ (ad1 : Nat → Nat → Nat) (N1 : Nat → Nat) (H1 : Heap) (locs1 : List Loc) (ls1 : Array Slot) (cells1 slots1 : Nat), (∀ a, N a ≤ N1 a) → me_wf N1 M1 → me_wf NR R1 → (me_cN N1 ≤ me_CL ∧ me_sN N1 ≤ me_SL) → va_P D classes (me_W ad1 ca M1 ++ me_W bd ca R1) H1 → va_D A (me_W ad1 ca M1 ++ me_W bd ca R1) → va_S A s.heap H1 locs1 → lv_has ls1 8 [(4, .int (nI i)), (3, .ref (ad1 16 jo)), (2, .ref (bd 1 0)), (1, .ref (ad1 0 0)), (0, .ref b)] → cells1 + me_cN N ≤ cells + me_cN N1 + 1 → slots1 + me_sN N ≤ slots + me_sN N1 + 6 → W p l e room_1 s m #[Value.ref b] below meth c H1 locs1 cells1 slots1 Q (F0 m 1029 ls1 [])) : W p l e room_1 s m #[Value.ref b] below meth c H locs cells slots Q (F0 m 445 ls []) := by
  refine lv_aload_n hx hb d_Law_law_445 rfl (lv_at hl 3 rfl) ?_
  refine lv_aload_n hx hb d_Law_law_446 rfl (lv_at hl 4 rfl) ?_
  refine lv_iload hx hb d_Law_law_447 (lv_at hl 0 rfl) ?_
  refine lv_iconst (v := 1) hx hb d_Law_law_449 (by decide) ?_
  refine lv_iadd hx hb d_Law_law_450 ?_
  refine fg_topi (y := nI (i + 1)) (nI_add i 1) ?_
  refine va_sld hx hb hXs hbl hbA hS (nI_in (c := i + 1) (N := L) (by omega) (by omega)) d_Law_law_451 ?_
  refine fg_topi (y := xs (i + 1)) (by rw [nI_clamp (by omega)]) ?_
  refine lv_aload_n hx hb d_Law_law_452 rfl (lv_at hl 4 rfl) ?_
  refine lv_iload hx hb d_Law_law_453 (lv_at hl 0 rfl) ?_
  refine lv_iconst (v := 2) hx hb d_Law_law_455 (by decide) ?_
  refine lv_iadd hx hb d_Law_law_456 ?_
  refine fg_topi (y := nI (i + 2)) (nI_add i 2) ?_
  refine va_sld hx hb hXs hbl hbA hS (nI_in (c := i + 2) (N := L) (by omega) (by omega)) d_Law_law_457 ?_
  refine fg_topi (y := xs (i + 2)) (by rw [nI_clamp (by omega)]) ?_
  refine lv_if_eq (tgt := 465) hx hb d_Law_law_458 (by decide) (fun c9 => ?_) (fun c9 => absurd hzb c9)
  refine lv_iconst (v := 0) hx hb d_Law_law_465 (by decide) ?_
  refine lv_aload_n hx hb d_Law_law_466 rfl (lv_at hl 1 rfl) ?_
  refine lw_Mi (r0 := 0) (M1 := M1) (al_runSH (As := [.ref (ad 0 0), .int (xs (i + 1)), .int 0, .ref (ad 16 jo)]) (rest := []) ⟨hx, hb, hml, hown, hts⟩ (c_Law_code l D ad ca N M M1 0 0 (xs (i + 1)) (0 : Int32) jo e1 hwf h00 (by decide) hjo _) (by show fg_nm y_Law_code 4; decide +kernel) u_1506 u_1507 u_180 u_1508 ⟨Nat.le_of_ble_eq_true rfl, Nat.le_of_ble_eq_true rfl⟩ hX (fk_Pl hP) hK (fk_Dl hD) hz hy hS hA rfl hl.1 (Nat.le_of_ble_eq_true rfl) d_Law_law_467 (by exact lw_f0 hfit)) hP hD hK hS hA (fun H locs hw hP hD hS => ?_)
  refine W.widen (k := cells) (n := slots) (Nat.le_refl _) (Nat.le_refl _) ?_
  have hwf := hw.1
  refine lv_istore (lv' := [(5, .int 0), (4, .int (nI i)), (3, .ref (ad 16 jo)), (2, .ref (bd 1 0)), (1, .ref (ad 0 0)), (0, .ref b)]) hx hb d_Law_law_470 hl (by decide) rfl (fun ls hl => ?_)
  refine lv_aload_n hx hb d_Law_law_472 rfl (lv_at hl 3 rfl) ?_
  refine lv_aload_n hx hb d_Law_law_473 rfl (lv_at hl 5 rfl) ?_
  refine lv_iload hx hb d_Law_law_474 (lv_at hl 1 rfl) ?_
  refine lv_iconst (v := 1) hx hb d_Law_law_476 (by decide) ?_
  refine lv_iadd hx hb d_Law_law_477 ?_
  refine fg_topi (y := nI (i + 1)) (nI_add i 1) ?_
  refine va_sld hx hb hXs hbl hbA hS (nI_in (c := i + 1) (N := L) (by omega) (by omega)) d_Law_law_478 ?_
  refine fg_topi (y := xs (i + 1)) (by rw [nI_clamp (by omega)]) ?_
  refine lv_aload_n hx hb d_Law_law_479 rfl (lv_at hl 5 rfl) ?_
  refine lv_iload hx hb d_Law_law_480 (lv_at hl 1 rfl) ?_
  refine lv_iconst (v := 2) hx hb d_Law_law_482 (by decide) ?_
  refine lv_iadd hx hb d_Law_law_483 ?_
  refine fg_topi (y := nI (i + 2)) (nI_add i 2) ?_
  refine va_sld hx hb hXs hbl hbA hS (nI_in (c := i + 2) (N := L) (by omega) (by omega)) d_Law_law_484 ?_
  refine fg_topi (y := xs (i + 2)) (by rw [nI_clamp (by omega)]) ?_
  refine lv_if_eq (tgt := 492) hx hb d_Law_law_485 (by decide) (fun c9 => ?_) (fun c9 => absurd hzb c9)
  refine lv_iconst (v := 0) hx hb d_Law_law_492 (by decide) ?_
  refine lw_Rl (r0 := rb) (R1 := R2) (me_runV (C := "FilterGuardModel") (As := [.int (xs (i + 1)), .int 0]) (rest := []) ⟨hx, hb, hml, hown, hts⟩ (c_M_code l D bd ca NR R R2 rb 0 (xs (i + 1)) (0 : Int32) e2 hwr h10 (by decide) _) rfl (by show fg_nm y_M_code 2; decide +kernel) u_2411 u_2412 u_2413 u_192 u_2414 ⟨Nat.le_of_ble_eq_true rfl, Nat.le_of_ble_eq_true rfl⟩ hX hz.2 hK (fk_Pr hP) (fk_Dr hD) hwr hS hA h10 (by decide) rfl rfl rfl hl.1 (Nat.le_of_ble_eq_true rfl) d_Law_law_493 (by exact lw_f0 hfit)) hP hD hK hS hA (fun H locs hw hP hD hS => ?_)
  refine W.widen (k := cells) (n := slots) (Nat.le_refl _) (Nat.le_refl _) ?_
  have hwr := hw.1
  refine lv_lstore (lv' := [(6, .long rb), (5, .int 0), (4, .int (nI i)), (3, .ref (ad 16 jo)), (2, .ref (bd 1 0)), (1, .ref (ad 0 0)), (0, .ref b)]) hx hb d_Law_law_496 hl (by decide) rfl (fun ls hl => ?_)
  refine lv_aload_n hx hb d_Law_law_498 rfl (lv_at hl 4 rfl) ?_
  refine lw_Ri (r0 := 0) (R1 := R1) (me_runV (C := "FilterGuardModel") (As := []) (rest := []) ⟨hx, hb, hml, hown, hts⟩ (c_M_thrown l D bd ca NR R2 R1 (0 : Int32) 0 e3 hwr h10 _) rfl (by show fg_nm y_M_thrown 0; decide +kernel) u_1967 u_1968 u_1969 u_192 u_1970 ⟨Nat.le_of_ble_eq_true rfl, Nat.le_of_ble_eq_true rfl⟩ hX hz.2 hK (fk_Pr hP) (fk_Dr hD) hwr hS hA h10 (by decide) rfl rfl rfl hl.1 (Nat.le_of_ble_eq_true rfl) d_Law_law_499 (by exact lw_f0 hfit)) hP hD hK hS hA (fun H locs hw hP hD hS => ?_)
  refine W.widen (k := cells) (n := slots) (Nat.le_refl _) (Nat.le_refl _) ?_
  have hwr := hw.1
  refine lv_iload hx hb d_Law_law_502 (lv_at hl 1 rfl) ?_
  refine lv_icmp_eq (tgt := 509) hx hb d_Law_law_504 (by decide) (fun c9 => ?_) (fun c9 => absurd (by decide) c9)
  refine lv_iload hx hb d_Law_law_509 (lv_at hl 1 rfl) ?_
  refine lv_if_ne (tgt := 525) hx hb d_Law_law_511 (by decide) (fun c9 => absurd (by decide) c9) (fun c9 => ?_)
  refine lv_aload_n hx hb d_Law_law_514 rfl (lv_at hl 3 rfl) ?_
  refine lv_iconst (v := 0) hx hb d_Law_law_515 (by decide) ?_
  have hz9 : 0 < mZ M1 16 jo := hout
  refine me_lald hx hb hK (fk_Pl hP) hwf hjo (me_in (i := (0 : Int32)) (k := 0) (by decide) (by decide) hz9) d_Law_law_516 ?_
  refine fg_topl (y := mL M1 16 jo 0) (congrArg _ (by decide)) ?_
  refine lv_lload hx hb d_Law_law_517 (lv_at hl 0 rfl) ?_
  refine W.lcmp hx hb d_Law_law_519 ?_
  refine fg_topi (y := 0) ((lg_cmp_eq _ _).mpr hob) ?_
  refine lv_if_eq (tgt := 525) hx hb d_Law_law_520 (by decide) (fun c9 => ?_) (fun c9 => absurd (by decide) c9)
  refine lv_goto (tgt := 1029) hx hb d_Law_law_525 (by decide) ?_
  exact kk ad N _ _ _ _ _ (fun _ => Nat.le_refl _) hwf hwr hcl hP hD hS (lv_sub hl [2, 3, 4, 5, 6] rfl) (by omega) (by omega)
theorem d_Law_law_461 : decode code 461 = .ok (.iconst 1, 1) := by decide +kernel
theorem d_Law_law_462 : decode code 462 = .ok (.goto 4, 3) := by decide +kernel
theorem d_Law_law_488 : decode code 488 = .ok (.iconst 1, 1) := by decide +kernel
theorem d_Law_law_489 : decode code 489 = .ok (.goto 4, 3) := by decide +kernel
set_option maxHeartbeats 4000000 in
set_option maxRecDepth 100000 in
theorem law_5_0z1 {p : Program} {l : Launch} {e : Env} {s : Jvm.State} {m : MethodId} {below : List Frame} {meth : Method} {c : Code} {b L i : Nat} {xs : Nat → Int32} {A : Nat → Prop} {D : va_G} {ca : Nat → ClassId} {ad bd : Nat → Nat → Nat} {N NR : Nat → Nat} {M M1 R R1 : me_M} {jo : Nat} {H : Heap} {locs : List Loc} {ls : Array Slot} {cells slots : Nat} {Q : Jvm.State → Prop} {R2 : me_M} {rb : Int64} (hzb : ¬ xs (i + 2) = 0) (hout : 0 < mZ M1 16 jo) (hl9 : l.stackTraces = false) (hx : p.tables.exec = Jvm.exec) (hb : c.code = code) (hml : c.maxLocals = 8) (hown : s.vm.findClass "FilterGuardLaw" = some m.cls) (hts : ∀ w ∈ fg_g, w.before #[Value.ref b] s = true) (hX : fg_X s) (hz : fg_Z A s s.heap) (hy : fg_Y s) (hXs : va_X b L xs s s.heap) (hbl : b < s.heap.size) (hbA : ¬ A b) (hA : ∀ q : Nat, s.heap.size ≤ q → A q) (hK : va_K D classes (me_T ca) s) (hL : L ≤ 3072) (hi : i + 6 ≤ L) (hwf : me_wf N M) (hwr : me_wf NR R) (hcl : me_cN N ≤ me_CL ∧ me_sN N ≤ me_SL) (h00 : 0 < N 0) (h10 : 0 < NR 1) (hjo : jo < N 16) (hP : va_P D classes (me_W ad ca M ++ me_W bd ca R) H) (hD : va_D A (me_W ad ca M ++ me_W bd ca R)) (hS : va_S A s.heap H locs) (hl : lv_has ls 8 [(4, .int (nI i)), (3, .ref (ad 16 jo)), (2, .ref (bd 1 0)), (1, .ref (ad 0 0)), (0, .ref b)]) (hfit : cells + (me_CL - me_cN N) + 8 ≤ 601024 ∧ slots + (me_SL - me_sN N) + 48 ≤ 7293034) (e1 : f_Law_code M 0 (xs (i + 1)) (1 : Int32) jo = some (M1, 0)) (e2 : f_M_code R 0 (xs (i + 1)) (1 : Int32) = some (R2, rb)) (e3 : f_M_thrown R2 0 = some (R1, 0)) (hob : mL M1 16 jo 0 = rb) (kk : ∀ (ad1 : Nat → Nat → Nat) (N1 : Nat → Nat) (H1 : Heap) (locs1 : List Loc) (ls1 : Array Slot) (cells1 slots1 : Nat), (∀ a, N a ≤ N1 a) → me_wf N1 M1 → me_wf NR R1 → (me_cN N1 ≤ me_CL ∧ me_sN N1 ≤ me_SL) → va_P D classes (me_W ad1 ca M1 ++ me_W bd ca R1) H1 → va_D A (me_W ad1 ca M1 ++ me_W bd ca R1) → va_S A s.heap H1 locs1 → lv_has ls1 8 [(4, .int (nI i)), (3, .ref (ad1 16 jo)), (2, .ref (bd 1 0)), (1, .ref (ad1 0 0)), (0, .ref b)] → cells1 + me_cN N ≤ cells + me_cN N1 + 1 → slots1 + me_sN N ≤ slots + me_sN N1 + 6 → W p l e room_1 s m #[Value.ref b] below meth c H1 locs1 cells1 slots1 Q (F0 m 1029 ls1 [])) : W p l e room_1 s m #[Value.ref b] below meth c H locs cells slots Q (F0 m 445 ls []) := by
  refine lv_aload_n hx hb d_Law_law_445 rfl (lv_at hl 3 rfl) ?_
  refine lv_aload_n hx hb d_Law_law_446 rfl (lv_at hl 4 rfl) ?_
  refine lv_iload hx hb d_Law_law_447 (lv_at hl 0 rfl) ?_
  refine lv_iconst (v := 1) hx hb d_Law_law_449 (by decide) ?_
  refine lv_iadd hx hb d_Law_law_450 ?_
  refine fg_topi (y := nI (i + 1)) (nI_add i 1) ?_
  refine va_sld hx hb hXs hbl hbA hS (nI_in (c := i + 1) (N := L) (by omega) (by omega)) d_Law_law_451 ?_
  refine fg_topi (y := xs (i + 1)) (by rw [nI_clamp (by omega)]) ?_
  refine lv_aload_n hx hb d_Law_law_452 rfl (lv_at hl 4 rfl) ?_
  refine lv_iload hx hb d_Law_law_453 (lv_at hl 0 rfl) ?_
  refine lv_iconst (v := 2) hx hb d_Law_law_455 (by decide) ?_
  refine lv_iadd hx hb d_Law_law_456 ?_
  refine fg_topi (y := nI (i + 2)) (nI_add i 2) ?_
  refine va_sld hx hb hXs hbl hbA hS (nI_in (c := i + 2) (N := L) (by omega) (by omega)) d_Law_law_457 ?_
  refine fg_topi (y := xs (i + 2)) (by rw [nI_clamp (by omega)]) ?_
  refine lv_if_eq (tgt := 465) hx hb d_Law_law_458 (by decide) (fun c9 => absurd c9 hzb) (fun c9 => ?_)
  refine lv_iconst (v := 1) hx hb d_Law_law_461 (by decide) ?_
  refine lv_goto (tgt := 466) hx hb d_Law_law_462 (by decide) ?_
  refine lv_aload_n hx hb d_Law_law_466 rfl (lv_at hl 1 rfl) ?_
  refine lw_Mi (r0 := 0) (M1 := M1) (al_runSH (As := [.ref (ad 0 0), .int (xs (i + 1)), .int 1, .ref (ad 16 jo)]) (rest := []) ⟨hx, hb, hml, hown, hts⟩ (c_Law_code l D ad ca N M M1 0 0 (xs (i + 1)) (1 : Int32) jo e1 hwf h00 (by decide) hjo _) (by show fg_nm y_Law_code 4; decide +kernel) u_1506 u_1507 u_180 u_1508 ⟨Nat.le_of_ble_eq_true rfl, Nat.le_of_ble_eq_true rfl⟩ hX (fk_Pl hP) hK (fk_Dl hD) hz hy hS hA rfl hl.1 (Nat.le_of_ble_eq_true rfl) d_Law_law_467 (by exact lw_f0 hfit)) hP hD hK hS hA (fun H locs hw hP hD hS => ?_)
  refine W.widen (k := cells) (n := slots) (Nat.le_refl _) (Nat.le_refl _) ?_
  have hwf := hw.1
  refine lv_istore (lv' := [(5, .int 0), (4, .int (nI i)), (3, .ref (ad 16 jo)), (2, .ref (bd 1 0)), (1, .ref (ad 0 0)), (0, .ref b)]) hx hb d_Law_law_470 hl (by decide) rfl (fun ls hl => ?_)
  refine lv_aload_n hx hb d_Law_law_472 rfl (lv_at hl 3 rfl) ?_
  refine lv_aload_n hx hb d_Law_law_473 rfl (lv_at hl 5 rfl) ?_
  refine lv_iload hx hb d_Law_law_474 (lv_at hl 1 rfl) ?_
  refine lv_iconst (v := 1) hx hb d_Law_law_476 (by decide) ?_
  refine lv_iadd hx hb d_Law_law_477 ?_
  refine fg_topi (y := nI (i + 1)) (nI_add i 1) ?_
  refine va_sld hx hb hXs hbl hbA hS (nI_in (c := i + 1) (N := L) (by omega) (by omega)) d_Law_law_478 ?_
  refine fg_topi (y := xs (i + 1)) (by rw [nI_clamp (by omega)]) ?_
  refine lv_aload_n hx hb d_Law_law_479 rfl (lv_at hl 5 rfl) ?_
  refine lv_iload hx hb d_Law_law_480 (lv_at hl 1 rfl) ?_
  refine lv_iconst (v := 2) hx hb d_Law_law_482 (by decide) ?_
  refine lv_iadd hx hb d_Law_law_483 ?_
  refine fg_topi (y := nI (i + 2)) (nI_add i 2) ?_
  refine va_sld hx hb hXs hbl hbA hS (nI_in (c := i + 2) (N := L) (by omega) (by omega)) d_Law_law_484 ?_
  refine fg_topi (y := xs (i + 2)) (by rw [nI_clamp (by omega)]) ?_
  refine lv_if_eq (tgt := 492) hx hb d_Law_law_485 (by decide) (fun c9 => absurd c9 hzb) (fun c9 => ?_)
  refine lv_iconst (v := 1) hx hb d_Law_law_488 (by decide) ?_
  refine lv_goto (tgt := 493) hx hb d_Law_law_489 (by decide) ?_
  refine lw_Rl (r0 := rb) (R1 := R2) (me_runV (C := "FilterGuardModel") (As := [.int (xs (i + 1)), .int 1]) (rest := []) ⟨hx, hb, hml, hown, hts⟩ (c_M_code l D bd ca NR R R2 rb 0 (xs (i + 1)) (1 : Int32) e2 hwr h10 (by decide) _) rfl (by show fg_nm y_M_code 2; decide +kernel) u_2411 u_2412 u_2413 u_192 u_2414 ⟨Nat.le_of_ble_eq_true rfl, Nat.le_of_ble_eq_true rfl⟩ hX hz.2 hK (fk_Pr hP) (fk_Dr hD) hwr hS hA h10 (by decide) rfl rfl rfl hl.1 (Nat.le_of_ble_eq_true rfl) d_Law_law_493 (by exact lw_f0 hfit)) hP hD hK hS hA (fun H locs hw hP hD hS => ?_)
  refine W.widen (k := cells) (n := slots) (Nat.le_refl _) (Nat.le_refl _) ?_
  have hwr := hw.1
  refine lv_lstore (lv' := [(6, .long rb), (5, .int 0), (4, .int (nI i)), (3, .ref (ad 16 jo)), (2, .ref (bd 1 0)), (1, .ref (ad 0 0)), (0, .ref b)]) hx hb d_Law_law_496 hl (by decide) rfl (fun ls hl => ?_)
  refine lv_aload_n hx hb d_Law_law_498 rfl (lv_at hl 4 rfl) ?_
  refine lw_Ri (r0 := 0) (R1 := R1) (me_runV (C := "FilterGuardModel") (As := []) (rest := []) ⟨hx, hb, hml, hown, hts⟩ (c_M_thrown l D bd ca NR R2 R1 (0 : Int32) 0 e3 hwr h10 _) rfl (by show fg_nm y_M_thrown 0; decide +kernel) u_1967 u_1968 u_1969 u_192 u_1970 ⟨Nat.le_of_ble_eq_true rfl, Nat.le_of_ble_eq_true rfl⟩ hX hz.2 hK (fk_Pr hP) (fk_Dr hD) hwr hS hA h10 (by decide) rfl rfl rfl hl.1 (Nat.le_of_ble_eq_true rfl) d_Law_law_499 (by exact lw_f0 hfit)) hP hD hK hS hA (fun H locs hw hP hD hS => ?_)
  refine W.widen (k := cells) (n := slots) (Nat.le_refl _) (Nat.le_refl _) ?_
  have hwr := hw.1
  refine lv_iload hx hb d_Law_law_502 (lv_at hl 1 rfl) ?_
  refine lv_icmp_eq (tgt := 509) hx hb d_Law_law_504 (by decide) (fun c9 => ?_) (fun c9 => absurd (by decide) c9)
  refine lv_iload hx hb d_Law_law_509 (lv_at hl 1 rfl) ?_
  refine lv_if_ne (tgt := 525) hx hb d_Law_law_511 (by decide) (fun c9 => absurd (by decide) c9) (fun c9 => ?_)
  refine lv_aload_n hx hb d_Law_law_514 rfl (lv_at hl 3 rfl) ?_
  refine lv_iconst (v := 0) hx hb d_Law_law_515 (by decide) ?_
  have hz9 : 0 < mZ M1 16 jo := hout
  refine me_lald hx hb hK (fk_Pl hP) hwf hjo (me_in (i := (0 : Int32)) (k := 0) (by decide) (by decide) hz9) d_Law_law_516 ?_
  refine fg_topl (y := mL M1 16 jo 0) (congrArg _ (by decide)) ?_
  refine lv_lload hx hb d_Law_law_517 (lv_at hl 0 rfl) ?_
  refine W.lcmp hx hb d_Law_law_519 ?_
  refine fg_topi (y := 0) ((lg_cmp_eq _ _).mpr hob) ?_
  refine lv_if_eq (tgt := 525) hx hb d_Law_law_520 (by decide) (fun c9 => ?_) (fun c9 => absurd (by decide) c9)
  refine lv_goto (tgt := 1029) hx hb d_Law_law_525 (by decide) ?_
  exact kk ad N _ _ _ _ _ (fun _ => Nat.le_refl _) hwf hwr hcl hP hD hS (lv_sub hl [2, 3, 4, 5, 6] rfl) (by omega) (by omega)
set_option maxHeartbeats 4000000 in
set_option maxRecDepth 100000 in
theorem law_5_1z0 {p : Program} {l : Launch} {e : Env} {s : Jvm.State} {m : MethodId} {below : List Frame} {meth : Method} {c : Code} {b L i : Nat} {xs : Nat → Int32} {A : Nat → Prop} {D : va_G} {ca : Nat → ClassId} {ad bd : Nat → Nat → Nat} {N NR : Nat → Nat} {M M1 R R1 : me_M} {jo : Nat} {H : Heap} {locs : List Loc} {ls : Array Slot} {cells slots : Nat} {Q : Jvm.State → Prop} {R2 : me_M} {rb : Int64} (hzb : xs (i + 2) = 0) (hl9 : l.stackTraces = false) (hx : p.tables.exec = Jvm.exec) (hb : c.code = code) (hml : c.maxLocals = 8) (hown : s.vm.findClass "FilterGuardLaw" = some m.cls) (hts : ∀ w ∈ fg_g, w.before #[Value.ref b] s = true) (hX : fg_X s) (hz : fg_Z A s s.heap) (hy : fg_Y s) (hXs : va_X b L xs s s.heap) (hbl : b < s.heap.size) (hbA : ¬ A b) (hA : ∀ q : Nat, s.heap.size ≤ q → A q) (hK : va_K D classes (me_T ca) s) (hL : L ≤ 3072) (hi : i + 6 ≤ L) (hwf : me_wf N M) (hwr : me_wf NR R) (hcl : me_cN N ≤ me_CL ∧ me_sN N ≤ me_SL) (h00 : 0 < N 0) (h10 : 0 < NR 1) (hjo : jo < N 16) (hP : va_P D classes (me_W ad ca M ++ me_W bd ca R) H) (hD : va_D A (me_W ad ca M ++ me_W bd ca R)) (hS : va_S A s.heap H locs) (hl : lv_has ls 8 [(4, .int (nI i)), (3, .ref (ad 16 jo)), (2, .ref (bd 1 0)), (1, .ref (ad 0 0)), (0, .ref b)]) (hfit : cells + (me_CL - me_cN N) + 8 ≤ 601024 ∧ slots + (me_SL - me_sN N) + 48 ≤ 7293034) (e1 : fT3_G_code M 0 (xs (i + 1)) (0 : Int32) = some M1) (e2 : f_M_code R 0 (xs (i + 1)) (0 : Int32) = some (R2, rb)) (e3 : f_M_thrown R2 0 = some (R1, 1)) (kk : ∀ (ad1 : Nat → Nat → Nat) (N1 : Nat → Nat) (H1 : Heap) (locs1 : List Loc) (ls1 : Array Slot) (cells1 slots1 : Nat), (∀ a, N a ≤ N1 a) → me_wf N1 M1 → me_wf NR R1 → (me_cN N1 ≤ me_CL ∧ me_sN N1 ≤ me_SL) → va_P D classes (me_W ad1 ca M1 ++ me_W bd ca R1) H1 → va_D A (me_W ad1 ca M1 ++ me_W bd ca R1) → va_S A s.heap H1 locs1 → lv_has ls1 8 [(4, .int (nI i)), (3, .ref (ad1 16 jo)), (2, .ref (bd 1 0)), (1, .ref (ad1 0 0)), (0, .ref b)] → cells1 + me_cN N ≤ cells + me_cN N1 + 1 → slots1 + me_sN N ≤ slots + me_sN N1 + 6 → W p l e room_1 s m #[Value.ref b] below meth c H1 locs1 cells1 slots1 Q (F0 m 1029 ls1 [])) : W p l e room_1 s m #[Value.ref b] below meth c H locs cells slots Q (F0 m 445 ls []) := by
  refine lv_aload_n hx hb d_Law_law_445 rfl (lv_at hl 3 rfl) ?_
  refine lv_aload_n hx hb d_Law_law_446 rfl (lv_at hl 4 rfl) ?_
  refine lv_iload hx hb d_Law_law_447 (lv_at hl 0 rfl) ?_
  refine lv_iconst (v := 1) hx hb d_Law_law_449 (by decide) ?_
  refine lv_iadd hx hb d_Law_law_450 ?_
  refine fg_topi (y := nI (i + 1)) (nI_add i 1) ?_
  refine va_sld hx hb hXs hbl hbA hS (nI_in (c := i + 1) (N := L) (by omega) (by omega)) d_Law_law_451 ?_
  refine fg_topi (y := xs (i + 1)) (by rw [nI_clamp (by omega)]) ?_
  refine lv_aload_n hx hb d_Law_law_452 rfl (lv_at hl 4 rfl) ?_
  refine lv_iload hx hb d_Law_law_453 (lv_at hl 0 rfl) ?_
  refine lv_iconst (v := 2) hx hb d_Law_law_455 (by decide) ?_
  refine lv_iadd hx hb d_Law_law_456 ?_
  refine fg_topi (y := nI (i + 2)) (nI_add i 2) ?_
  refine va_sld hx hb hXs hbl hbA hS (nI_in (c := i + 2) (N := L) (by omega) (by omega)) d_Law_law_457 ?_
  refine fg_topi (y := xs (i + 2)) (by rw [nI_clamp (by omega)]) ?_
  refine lv_if_eq (tgt := 465) hx hb d_Law_law_458 (by decide) (fun c9 => ?_) (fun c9 => absurd hzb c9)
  refine lv_iconst (v := 0) hx hb d_Law_law_465 (by decide) ?_
  refine lv_aload_n hx hb d_Law_law_466 rfl (lv_at hl 1 rfl) ?_
  refine lw_Mi (r0 := 1) (M1 := M1) (al_runSH (As := [.ref (ad 0 0), .int (xs (i + 1)), .int 0, .ref (ad 16 jo)]) (rest := []) ⟨hx, hb, hml, hown, hts⟩ (cH3_Law_code l hl9 D ad ca N M M1 0 (xs (i + 1)) (0 : Int32) jo e1 hwf h00 (by decide) hjo _) (by show fg_nm y_Law_code 4; decide +kernel) u_1506 u_1507 u_180 u_1508 ⟨Nat.le_of_ble_eq_true rfl, Nat.le_of_ble_eq_true rfl⟩ hX (fk_Pl hP) hK (fk_Dl hD) hz hy hS hA rfl hl.1 (Nat.le_of_ble_eq_true rfl) d_Law_law_467 (by exact lw_f1 hfit)) hP hD hK hS hA (fun H locs hw hP hD hS => ?_)
  obtain ⟨cells0, hc0⟩ : ∃ z, z = cells := ⟨_, rfl⟩
  obtain ⟨slots0, hs0⟩ : ∃ z, z = slots := ⟨_, rfl⟩
  refine W.widen (k := cells + 1) (n := slots + 6) (Nat.le_refl _) (Nat.le_refl _) ?_
  have hwf := hw
  have hfit := lw_ft hfit
  generalize hce : cells + 1 = cells1 at hfit ⊢
  generalize hse : slots + 6 = slots1 at hfit ⊢
  refine lv_istore (lv' := [(5, .int 1), (4, .int (nI i)), (3, .ref (ad 16 jo)), (2, .ref (bd 1 0)), (1, .ref (ad 0 0)), (0, .ref b)]) hx hb d_Law_law_470 hl (by decide) rfl (fun ls hl => ?_)
  refine lv_aload_n hx hb d_Law_law_472 rfl (lv_at hl 3 rfl) ?_
  refine lv_aload_n hx hb d_Law_law_473 rfl (lv_at hl 5 rfl) ?_
  refine lv_iload hx hb d_Law_law_474 (lv_at hl 1 rfl) ?_
  refine lv_iconst (v := 1) hx hb d_Law_law_476 (by decide) ?_
  refine lv_iadd hx hb d_Law_law_477 ?_
  refine fg_topi (y := nI (i + 1)) (nI_add i 1) ?_
  refine va_sld hx hb hXs hbl hbA hS (nI_in (c := i + 1) (N := L) (by omega) (by omega)) d_Law_law_478 ?_
  refine fg_topi (y := xs (i + 1)) (by rw [nI_clamp (by omega)]) ?_
  refine lv_aload_n hx hb d_Law_law_479 rfl (lv_at hl 5 rfl) ?_
  refine lv_iload hx hb d_Law_law_480 (lv_at hl 1 rfl) ?_
  refine lv_iconst (v := 2) hx hb d_Law_law_482 (by decide) ?_
  refine lv_iadd hx hb d_Law_law_483 ?_
  refine fg_topi (y := nI (i + 2)) (nI_add i 2) ?_
  refine va_sld hx hb hXs hbl hbA hS (nI_in (c := i + 2) (N := L) (by omega) (by omega)) d_Law_law_484 ?_
  refine fg_topi (y := xs (i + 2)) (by rw [nI_clamp (by omega)]) ?_
  refine lv_if_eq (tgt := 492) hx hb d_Law_law_485 (by decide) (fun c9 => ?_) (fun c9 => absurd hzb c9)
  refine lv_iconst (v := 0) hx hb d_Law_law_492 (by decide) ?_
  refine lw_Rl (r0 := rb) (R1 := R2) (me_runV (C := "FilterGuardModel") (As := [.int (xs (i + 1)), .int 0]) (rest := []) ⟨hx, hb, hml, hown, hts⟩ (c_M_code l D bd ca NR R R2 rb 0 (xs (i + 1)) (0 : Int32) e2 hwr h10 (by decide) _) rfl (by show fg_nm y_M_code 2; decide +kernel) u_2411 u_2412 u_2413 u_192 u_2414 ⟨Nat.le_of_ble_eq_true rfl, Nat.le_of_ble_eq_true rfl⟩ hX hz.2 hK (fk_Pr hP) (fk_Dr hD) hwr hS hA h10 (by decide) rfl rfl rfl hl.1 (Nat.le_of_ble_eq_true rfl) d_Law_law_493 (by exact lw_f2 hfit)) hP hD hK hS hA (fun H locs hw hP hD hS => ?_)
  refine W.widen (k := cells1) (n := slots1) (Nat.le_refl _) (Nat.le_refl _) ?_
  have hwr := hw.1
  refine lv_lstore (lv' := [(6, .long rb), (5, .int 1), (4, .int (nI i)), (3, .ref (ad 16 jo)), (2, .ref (bd 1 0)), (1, .ref (ad 0 0)), (0, .ref b)]) hx hb d_Law_law_496 hl (by decide) rfl (fun ls hl => ?_)
  refine lv_aload_n hx hb d_Law_law_498 rfl (lv_at hl 4 rfl) ?_
  refine lw_Ri (r0 := 1) (R1 := R1) (me_runV (C := "FilterGuardModel") (As := []) (rest := []) ⟨hx, hb, hml, hown, hts⟩ (c_M_thrown l D bd ca NR R2 R1 (1 : Int32) 0 e3 hwr h10 _) rfl (by show fg_nm y_M_thrown 0; decide +kernel) u_1967 u_1968 u_1969 u_192 u_1970 ⟨Nat.le_of_ble_eq_true rfl, Nat.le_of_ble_eq_true rfl⟩ hX hz.2 hK (fk_Pr hP) (fk_Dr hD) hwr hS hA h10 (by decide) rfl rfl rfl hl.1 (Nat.le_of_ble_eq_true rfl) d_Law_law_499 (by exact lw_f2 hfit)) hP hD hK hS hA (fun H locs hw hP hD hS => ?_)
  refine W.widen (k := cells1) (n := slots1) (Nat.le_refl _) (Nat.le_refl _) ?_
  have hwr := hw.1
  refine lv_iload hx hb d_Law_law_502 (lv_at hl 1 rfl) ?_
  refine lv_icmp_eq (tgt := 509) hx hb d_Law_law_504 (by decide) (fun c9 => ?_) (fun c9 => absurd (by decide) c9)
  refine lv_iload hx hb d_Law_law_509 (lv_at hl 1 rfl) ?_
  refine lv_if_ne (tgt := 525) hx hb d_Law_law_511 (by decide) (fun c9 => ?_) (fun c9 => absurd c9 (by decide))
  refine lv_goto (tgt := 1029) hx hb d_Law_law_525 (by decide) ?_
  exact kk ad N _ _ _ _ _ (fun _ => Nat.le_refl _) hwf hwr hcl hP hD hS (lv_sub hl [2, 3, 4, 5, 6] rfl) (by omega) (by omega)
set_option maxHeartbeats 4000000 in
set_option maxRecDepth 100000 in
theorem law_5_1z1 {p : Program} {l : Launch} {e : Env} {s : Jvm.State} {m : MethodId} {below : List Frame} {meth : Method} {c : Code} {b L i : Nat} {xs : Nat → Int32} {A : Nat → Prop} {D : va_G} {ca : Nat → ClassId} {ad bd : Nat → Nat → Nat} {N NR : Nat → Nat} {M M1 R R1 : me_M} {jo : Nat} {H : Heap} {locs : List Loc} {ls : Array Slot} {cells slots : Nat} {Q : Jvm.State → Prop} {R2 : me_M} {rb : Int64} (hzb : ¬ xs (i + 2) = 0) (hl9 : l.stackTraces = false) (hx : p.tables.exec = Jvm.exec) (hb : c.code = code) (hml : c.maxLocals = 8) (hown : s.vm.findClass "FilterGuardLaw" = some m.cls) (hts : ∀ w ∈ fg_g, w.before #[Value.ref b] s = true) (hX : fg_X s) (hz : fg_Z A s s.heap) (hy : fg_Y s) (hXs : va_X b L xs s s.heap) (hbl : b < s.heap.size) (hbA : ¬ A b) (hA : ∀ q : Nat, s.heap.size ≤ q → A q) (hK : va_K D classes (me_T ca) s) (hL : L ≤ 3072) (hi : i + 6 ≤ L) (hwf : me_wf N M) (hwr : me_wf NR R) (hcl : me_cN N ≤ me_CL ∧ me_sN N ≤ me_SL) (h00 : 0 < N 0) (h10 : 0 < NR 1) (hjo : jo < N 16) (hP : va_P D classes (me_W ad ca M ++ me_W bd ca R) H) (hD : va_D A (me_W ad ca M ++ me_W bd ca R)) (hS : va_S A s.heap H locs) (hl : lv_has ls 8 [(4, .int (nI i)), (3, .ref (ad 16 jo)), (2, .ref (bd 1 0)), (1, .ref (ad 0 0)), (0, .ref b)]) (hfit : cells + (me_CL - me_cN N) + 8 ≤ 601024 ∧ slots + (me_SL - me_sN N) + 48 ≤ 7293034) (e1 : fT3_G_code M 0 (xs (i + 1)) (1 : Int32) = some M1) (e2 : f_M_code R 0 (xs (i + 1)) (1 : Int32) = some (R2, rb)) (e3 : f_M_thrown R2 0 = some (R1, 1)) (kk : ∀ (ad1 : Nat → Nat → Nat) (N1 : Nat → Nat) (H1 : Heap) (locs1 : List Loc) (ls1 : Array Slot) (cells1 slots1 : Nat), (∀ a, N a ≤ N1 a) → me_wf N1 M1 → me_wf NR R1 → (me_cN N1 ≤ me_CL ∧ me_sN N1 ≤ me_SL) → va_P D classes (me_W ad1 ca M1 ++ me_W bd ca R1) H1 → va_D A (me_W ad1 ca M1 ++ me_W bd ca R1) → va_S A s.heap H1 locs1 → lv_has ls1 8 [(4, .int (nI i)), (3, .ref (ad1 16 jo)), (2, .ref (bd 1 0)), (1, .ref (ad1 0 0)), (0, .ref b)] → cells1 + me_cN N ≤ cells + me_cN N1 + 1 → slots1 + me_sN N ≤ slots + me_sN N1 + 6 → W p l e room_1 s m #[Value.ref b] below meth c H1 locs1 cells1 slots1 Q (F0 m 1029 ls1 [])) : W p l e room_1 s m #[Value.ref b] below meth c H locs cells slots Q (F0 m 445 ls []) := by
  refine lv_aload_n hx hb d_Law_law_445 rfl (lv_at hl 3 rfl) ?_
  refine lv_aload_n hx hb d_Law_law_446 rfl (lv_at hl 4 rfl) ?_
  refine lv_iload hx hb d_Law_law_447 (lv_at hl 0 rfl) ?_
  refine lv_iconst (v := 1) hx hb d_Law_law_449 (by decide) ?_
  refine lv_iadd hx hb d_Law_law_450 ?_
  refine fg_topi (y := nI (i + 1)) (nI_add i 1) ?_
  refine va_sld hx hb hXs hbl hbA hS (nI_in (c := i + 1) (N := L) (by omega) (by omega)) d_Law_law_451 ?_
  refine fg_topi (y := xs (i + 1)) (by rw [nI_clamp (by omega)]) ?_
  refine lv_aload_n hx hb d_Law_law_452 rfl (lv_at hl 4 rfl) ?_
  refine lv_iload hx hb d_Law_law_453 (lv_at hl 0 rfl) ?_
  refine lv_iconst (v := 2) hx hb d_Law_law_455 (by decide) ?_
  refine lv_iadd hx hb d_Law_law_456 ?_
  refine fg_topi (y := nI (i + 2)) (nI_add i 2) ?_
  refine va_sld hx hb hXs hbl hbA hS (nI_in (c := i + 2) (N := L) (by omega) (by omega)) d_Law_law_457 ?_
  refine fg_topi (y := xs (i + 2)) (by rw [nI_clamp (by omega)]) ?_
  refine lv_if_eq (tgt := 465) hx hb d_Law_law_458 (by decide) (fun c9 => absurd c9 hzb) (fun c9 => ?_)
  refine lv_iconst (v := 1) hx hb d_Law_law_461 (by decide) ?_
  refine lv_goto (tgt := 466) hx hb d_Law_law_462 (by decide) ?_
  refine lv_aload_n hx hb d_Law_law_466 rfl (lv_at hl 1 rfl) ?_
  refine lw_Mi (r0 := 1) (M1 := M1) (al_runSH (As := [.ref (ad 0 0), .int (xs (i + 1)), .int 1, .ref (ad 16 jo)]) (rest := []) ⟨hx, hb, hml, hown, hts⟩ (cH3_Law_code l hl9 D ad ca N M M1 0 (xs (i + 1)) (1 : Int32) jo e1 hwf h00 (by decide) hjo _) (by show fg_nm y_Law_code 4; decide +kernel) u_1506 u_1507 u_180 u_1508 ⟨Nat.le_of_ble_eq_true rfl, Nat.le_of_ble_eq_true rfl⟩ hX (fk_Pl hP) hK (fk_Dl hD) hz hy hS hA rfl hl.1 (Nat.le_of_ble_eq_true rfl) d_Law_law_467 (by exact lw_f1 hfit)) hP hD hK hS hA (fun H locs hw hP hD hS => ?_)
  obtain ⟨cells0, hc0⟩ : ∃ z, z = cells := ⟨_, rfl⟩
  obtain ⟨slots0, hs0⟩ : ∃ z, z = slots := ⟨_, rfl⟩
  refine W.widen (k := cells + 1) (n := slots + 6) (Nat.le_refl _) (Nat.le_refl _) ?_
  have hwf := hw
  have hfit := lw_ft hfit
  generalize hce : cells + 1 = cells1 at hfit ⊢
  generalize hse : slots + 6 = slots1 at hfit ⊢
  refine lv_istore (lv' := [(5, .int 1), (4, .int (nI i)), (3, .ref (ad 16 jo)), (2, .ref (bd 1 0)), (1, .ref (ad 0 0)), (0, .ref b)]) hx hb d_Law_law_470 hl (by decide) rfl (fun ls hl => ?_)
  refine lv_aload_n hx hb d_Law_law_472 rfl (lv_at hl 3 rfl) ?_
  refine lv_aload_n hx hb d_Law_law_473 rfl (lv_at hl 5 rfl) ?_
  refine lv_iload hx hb d_Law_law_474 (lv_at hl 1 rfl) ?_
  refine lv_iconst (v := 1) hx hb d_Law_law_476 (by decide) ?_
  refine lv_iadd hx hb d_Law_law_477 ?_
  refine fg_topi (y := nI (i + 1)) (nI_add i 1) ?_
  refine va_sld hx hb hXs hbl hbA hS (nI_in (c := i + 1) (N := L) (by omega) (by omega)) d_Law_law_478 ?_
  refine fg_topi (y := xs (i + 1)) (by rw [nI_clamp (by omega)]) ?_
  refine lv_aload_n hx hb d_Law_law_479 rfl (lv_at hl 5 rfl) ?_
  refine lv_iload hx hb d_Law_law_480 (lv_at hl 1 rfl) ?_
  refine lv_iconst (v := 2) hx hb d_Law_law_482 (by decide) ?_
  refine lv_iadd hx hb d_Law_law_483 ?_
  refine fg_topi (y := nI (i + 2)) (nI_add i 2) ?_
  refine va_sld hx hb hXs hbl hbA hS (nI_in (c := i + 2) (N := L) (by omega) (by omega)) d_Law_law_484 ?_
  refine fg_topi (y := xs (i + 2)) (by rw [nI_clamp (by omega)]) ?_
  refine lv_if_eq (tgt := 492) hx hb d_Law_law_485 (by decide) (fun c9 => absurd c9 hzb) (fun c9 => ?_)
  refine lv_iconst (v := 1) hx hb d_Law_law_488 (by decide) ?_
  refine lv_goto (tgt := 493) hx hb d_Law_law_489 (by decide) ?_
  refine lw_Rl (r0 := rb) (R1 := R2) (me_runV (C := "FilterGuardModel") (As := [.int (xs (i + 1)), .int 1]) (rest := []) ⟨hx, hb, hml, hown, hts⟩ (c_M_code l D bd ca NR R R2 rb 0 (xs (i + 1)) (1 : Int32) e2 hwr h10 (by decide) _) rfl (by show fg_nm y_M_code 2; decide +kernel) u_2411 u_2412 u_2413 u_192 u_2414 ⟨Nat.le_of_ble_eq_true rfl, Nat.le_of_ble_eq_true rfl⟩ hX hz.2 hK (fk_Pr hP) (fk_Dr hD) hwr hS hA h10 (by decide) rfl rfl rfl hl.1 (Nat.le_of_ble_eq_true rfl) d_Law_law_493 (by exact lw_f2 hfit)) hP hD hK hS hA (fun H locs hw hP hD hS => ?_)
  refine W.widen (k := cells1) (n := slots1) (Nat.le_refl _) (Nat.le_refl _) ?_
  have hwr := hw.1
  refine lv_lstore (lv' := [(6, .long rb), (5, .int 1), (4, .int (nI i)), (3, .ref (ad 16 jo)), (2, .ref (bd 1 0)), (1, .ref (ad 0 0)), (0, .ref b)]) hx hb d_Law_law_496 hl (by decide) rfl (fun ls hl => ?_)
  refine lv_aload_n hx hb d_Law_law_498 rfl (lv_at hl 4 rfl) ?_
  refine lw_Ri (r0 := 1) (R1 := R1) (me_runV (C := "FilterGuardModel") (As := []) (rest := []) ⟨hx, hb, hml, hown, hts⟩ (c_M_thrown l D bd ca NR R2 R1 (1 : Int32) 0 e3 hwr h10 _) rfl (by show fg_nm y_M_thrown 0; decide +kernel) u_1967 u_1968 u_1969 u_192 u_1970 ⟨Nat.le_of_ble_eq_true rfl, Nat.le_of_ble_eq_true rfl⟩ hX hz.2 hK (fk_Pr hP) (fk_Dr hD) hwr hS hA h10 (by decide) rfl rfl rfl hl.1 (Nat.le_of_ble_eq_true rfl) d_Law_law_499 (by exact lw_f2 hfit)) hP hD hK hS hA (fun H locs hw hP hD hS => ?_)
  refine W.widen (k := cells1) (n := slots1) (Nat.le_refl _) (Nat.le_refl _) ?_
  have hwr := hw.1
  refine lv_iload hx hb d_Law_law_502 (lv_at hl 1 rfl) ?_
  refine lv_icmp_eq (tgt := 509) hx hb d_Law_law_504 (by decide) (fun c9 => ?_) (fun c9 => absurd (by decide) c9)
  refine lv_iload hx hb d_Law_law_509 (lv_at hl 1 rfl) ?_
  refine lv_if_ne (tgt := 525) hx hb d_Law_law_511 (by decide) (fun c9 => ?_) (fun c9 => absurd c9 (by decide))
  refine lv_goto (tgt := 1029) hx hb d_Law_law_525 (by decide) ?_
  exact kk ad N _ _ _ _ _ (fun _ => Nat.le_refl _) hwf hwr hcl hP hD hS (lv_sub hl [2, 3, 4, 5, 6] rfl) (by omega) (by omega)
theorem d_Law_law_528 : decode code 528 = .ok (.aload_n 1, 1) := by decide +kernel
theorem d_Law_law_529 : decode code 529 = .ok (.aload_n 0, 1) := by decide +kernel
theorem d_Law_law_530 : decode code 530 = .ok (.iload 4, 2) := by decide +kernel
theorem d_Law_law_532 : decode code 532 = .ok (.iconst 1, 1) := by decide +kernel
theorem d_Law_law_533 : decode code 533 = .ok (.iadd, 1) := by decide +kernel
theorem d_Law_law_534 : decode code 534 = .ok (.iaload, 1) := by decide +kernel
theorem d_Law_law_535 : decode code 535 = .ok (.invokevirtual 83, 3) := by decide +kernel
theorem u_766 : Cond.methodLink "FilterGuardLaw" 83 ⟨"FilterGuard", "packet", "(I)Z"⟩ ∈ fg_g := fg_in (List.mem_of_getElem? (i := 766) (by decide +kernel)) rfl
theorem u_769 : Cond.code ⟨"FilterGuard", "packet", "(I)Z"⟩ prog_1_method_9_code 3 (some .boolean) ∈ fg_g := fg_in (List.mem_of_getElem? (i := 769) (by decide +kernel)) rfl
theorem u_767 : Cond.instanceMethod ⟨"FilterGuard", "packet", "(I)Z"⟩ ∈ fg_g := fg_in (List.mem_of_getElem? (i := 767) (by decide +kernel)) rfl
theorem u_768 : Cond.selects "FilterGuard" ⟨"FilterGuard", "packet", "(I)Z"⟩ ⟨"FilterGuard", "packet", "(I)Z"⟩ ∈ fg_g := fg_in (List.mem_of_getElem? (i := 768) (by decide +kernel)) rfl
theorem d_Law_law_538 : decode code 538 = .ok (.aload_n 2, 1) := by decide +kernel
theorem d_Law_law_539 : decode code 539 = .ok (.aload_n 0, 1) := by decide +kernel
theorem d_Law_law_540 : decode code 540 = .ok (.iload 4, 2) := by decide +kernel
theorem d_Law_law_542 : decode code 542 = .ok (.iconst 1, 1) := by decide +kernel
theorem d_Law_law_543 : decode code 543 = .ok (.iadd, 1) := by decide +kernel
theorem d_Law_law_544 : decode code 544 = .ok (.iaload, 1) := by decide +kernel
theorem d_Law_law_545 : decode code 545 = .ok (.invokevirtual 87, 3) := by decide +kernel
theorem u_2443 : Cond.methodLink "FilterGuardLaw" 87 ⟨"FilterGuardModel", "packet", "(I)Z"⟩ ∈ fg_g := fg_in (List.mem_of_getElem? (i := 2443) (by decide +kernel)) rfl
theorem u_2446 : Cond.code ⟨"FilterGuardModel", "packet", "(I)Z"⟩ prog_14_method_122_code 4 (some .boolean) ∈ fg_g := fg_in (List.mem_of_getElem? (i := 2446) (by decide +kernel)) rfl
theorem u_2444 : Cond.instanceMethod ⟨"FilterGuardModel", "packet", "(I)Z"⟩ ∈ fg_g := fg_in (List.mem_of_getElem? (i := 2444) (by decide +kernel)) rfl
theorem u_2445 : Cond.selects "FilterGuardModel" ⟨"FilterGuardModel", "packet", "(I)Z"⟩ ⟨"FilterGuardModel", "packet", "(I)Z"⟩ ∈ fg_g := fg_in (List.mem_of_getElem? (i := 2445) (by decide +kernel)) rfl
theorem d_Law_law_548 : decode code 548 = .ok (.if_icmp .eq 481, 3) := by decide +kernel
set_option maxHeartbeats 4000000 in
set_option maxRecDepth 100000 in
theorem law_6 {p : Program} {l : Launch} {e : Env} {s : Jvm.State} {m : MethodId} {below : List Frame} {meth : Method} {c : Code} {b L i : Nat} {xs : Nat → Int32} {A : Nat → Prop} {D : va_G} {ca : Nat → ClassId} {ad bd : Nat → Nat → Nat} {N NR : Nat → Nat} {M M1 R R1 : me_M} {jo : Nat} {H : Heap} {locs : List Loc} {ls : Array Slot} {cells slots : Nat} {Q : Jvm.State → Prop} {r : Int32} (hl9 : l.stackTraces = false) (hx : p.tables.exec = Jvm.exec) (hb : c.code = code) (hml : c.maxLocals = 8) (hown : s.vm.findClass "FilterGuardLaw" = some m.cls) (hts : ∀ w ∈ fg_g, w.before #[Value.ref b] s = true) (hX : fg_X s) (hz : fg_Z A s s.heap) (hy : fg_Y s) (hXs : va_X b L xs s s.heap) (hbl : b < s.heap.size) (hbA : ¬ A b) (hA : ∀ q : Nat, s.heap.size ≤ q → A q) (hK : va_K D classes (me_T ca) s) (hL : L ≤ 3072) (hi : i + 6 ≤ L) (hwf : me_wf N M) (hwr : me_wf NR R) (hcl : me_cN N ≤ me_CL ∧ me_sN N ≤ me_SL) (h00 : 0 < N 0) (h10 : 0 < NR 1) (hjo : jo < N 16) (hP : va_P D classes (me_W ad ca M ++ me_W bd ca R) H) (hD : va_D A (me_W ad ca M ++ me_W bd ca R)) (hS : va_S A s.heap H locs) (hl : lv_has ls 8 [(4, .int (nI i)), (3, .ref (ad 16 jo)), (2, .ref (bd 1 0)), (1, .ref (ad 0 0)), (0, .ref b)]) (hfit : cells + (me_CL - me_cN N) + 8 ≤ 601024 ∧ slots + (me_SL - me_sN N) + 48 ≤ 7293034) (e1 : f_G_packet M 0 (xs (i + 1)) = some (M1, r)) (e2 : f_M_packet R 0 (xs (i + 1)) = some (R1, r)) (kk : ∀ (ad1 : Nat → Nat → Nat) (N1 : Nat → Nat) (H1 : Heap) (locs1 : List Loc) (ls1 : Array Slot) (cells1 slots1 : Nat), (∀ a, N a ≤ N1 a) → me_wf N1 M1 → me_wf NR R1 → (me_cN N1 ≤ me_CL ∧ me_sN N1 ≤ me_SL) → va_P D classes (me_W ad1 ca M1 ++ me_W bd ca R1) H1 → va_D A (me_W ad1 ca M1 ++ me_W bd ca R1) → va_S A s.heap H1 locs1 → lv_has ls1 8 [(4, .int (nI i)), (3, .ref (ad1 16 jo)), (2, .ref (bd 1 0)), (1, .ref (ad1 0 0)), (0, .ref b)] → cells1 + me_cN N ≤ cells + me_cN N1 + 1 → slots1 + me_sN N ≤ slots + me_sN N1 + 6 → W p l e room_1 s m #[Value.ref b] below meth c H1 locs1 cells1 slots1 Q (F0 m 1029 ls1 [])) : W p l e room_1 s m #[Value.ref b] below meth c H locs cells slots Q (F0 m 528 ls []) := by
  refine lv_aload_n hx hb d_Law_law_528 rfl (lv_at hl 3 rfl) ?_
  refine lv_aload_n hx hb d_Law_law_529 rfl (lv_at hl 4 rfl) ?_
  refine lv_iload hx hb d_Law_law_530 (lv_at hl 0 rfl) ?_
  refine lv_iconst (v := 1) hx hb d_Law_law_532 (by decide) ?_
  refine lv_iadd hx hb d_Law_law_533 ?_
  refine fg_topi (y := nI (i + 1)) (nI_add i 1) ?_
  refine va_sld hx hb hXs hbl hbA hS (nI_in (c := i + 1) (N := L) (by omega) (by omega)) d_Law_law_534 ?_
  refine fg_topi (y := xs (i + 1)) (by rw [nI_clamp (by omega)]) ?_
  refine lw_Mi (r0 := r) (M1 := M1) (me_runV (C := "FilterGuard") (As := [.int (xs (i + 1))]) (rest := []) ⟨hx, hb, hml, hown, hts⟩ (c_G_packet l D ad ca N M M1 r 0 (xs (i + 1)) e1 hwf h00 _) rfl (by show fg_nm y_G_packet 1; decide +kernel) u_766 u_767 u_768 u_181 u_769 ⟨Nat.le_of_ble_eq_true rfl, Nat.le_of_ble_eq_true rfl⟩ hX hz.2 hK (fk_Pl hP) (fk_Dl hD) hwf hS hA h00 (by decide) rfl rfl rfl hl.1 (Nat.le_of_ble_eq_true rfl) d_Law_law_535 (by exact lw_f0 hfit)) hP hD hK hS hA (fun H locs hw hP hD hS => ?_)
  refine W.widen (k := cells) (n := slots) (Nat.le_refl _) (Nat.le_refl _) ?_
  have hwf := hw.1
  refine lv_aload_n hx hb d_Law_law_538 rfl (lv_at hl 2 rfl) ?_
  refine lv_aload_n hx hb d_Law_law_539 rfl (lv_at hl 4 rfl) ?_
  refine lv_iload hx hb d_Law_law_540 (lv_at hl 0 rfl) ?_
  refine lv_iconst (v := 1) hx hb d_Law_law_542 (by decide) ?_
  refine lv_iadd hx hb d_Law_law_543 ?_
  refine fg_topi (y := nI (i + 1)) (nI_add i 1) ?_
  refine va_sld hx hb hXs hbl hbA hS (nI_in (c := i + 1) (N := L) (by omega) (by omega)) d_Law_law_544 ?_
  refine fg_topi (y := xs (i + 1)) (by rw [nI_clamp (by omega)]) ?_
  refine lw_Ri (r0 := r) (R1 := R1) (me_runV (C := "FilterGuardModel") (As := [.int (xs (i + 1))]) (rest := [.int r]) ⟨hx, hb, hml, hown, hts⟩ (c_M_packet l D bd ca NR R R1 r 0 (xs (i + 1)) e2 hwr h10 _) rfl (by show fg_nm y_M_packet 1; decide +kernel) u_2443 u_2444 u_2445 u_192 u_2446 ⟨Nat.le_of_ble_eq_true rfl, Nat.le_of_ble_eq_true rfl⟩ hX hz.2 hK (fk_Pr hP) (fk_Dr hD) hwr hS hA h10 (by decide) rfl rfl rfl hl.1 (Nat.le_of_ble_eq_true rfl) d_Law_law_545 (by exact lw_f0 hfit)) hP hD hK hS hA (fun H locs hw hP hD hS => ?_)
  refine W.widen (k := cells) (n := slots) (Nat.le_refl _) (Nat.le_refl _) ?_
  have hwr := hw.1
  refine lv_icmp_eq (tgt := 1029) hx hb d_Law_law_548 (by decide) (fun c9 => ?_) (fun c9 => absurd rfl c9)
  exact kk ad N _ _ _ _ _ (fun _ => Nat.le_refl _) hwf hwr hcl hP hD hS (lv_sub hl [0, 1, 2, 3, 4] rfl) (by omega) (by omega)
