theorem d_Law_law_553 : decode code 553 = .ok (.aload_n 1, 1) := by decide +kernel
theorem d_Law_law_554 : decode code 554 = .ok (.aload_n 0, 1) := by decide +kernel
theorem d_Law_law_555 : decode code 555 = .ok (.iload 4, 2) := by decide +kernel
theorem d_Law_law_557 : decode code 557 = .ok (.iconst 1, 1) := by decide +kernel
theorem d_Law_law_558 : decode code 558 = .ok (.iadd, 1) := by decide +kernel
theorem d_Law_law_559 : decode code 559 = .ok (.iaload, 1) := by decide +kernel
theorem d_Law_law_560 : decode code 560 = .ok (.aload_n 0, 1) := by decide +kernel
theorem d_Law_law_561 : decode code 561 = .ok (.iload 4, 2) := by decide +kernel
theorem d_Law_law_563 : decode code 563 = .ok (.iconst 2, 1) := by decide +kernel
theorem d_Law_law_564 : decode code 564 = .ok (.iadd, 1) := by decide +kernel
theorem d_Law_law_565 : decode code 565 = .ok (.iaload, 1) := by decide +kernel
theorem d_Law_law_566 : decode code 566 = .ok (.i2l, 1) := by decide +kernel
theorem d_Law_law_567 : decode code 567 = .ok (.bipush 32, 2) := by decide +kernel
theorem d_Law_law_569 : decode code 569 = .ok (.lshl, 1) := by decide +kernel
theorem d_Law_law_570 : decode code 570 = .ok (.aload_n 0, 1) := by decide +kernel
theorem d_Law_law_571 : decode code 571 = .ok (.iload 4, 2) := by decide +kernel
theorem d_Law_law_573 : decode code 573 = .ok (.iconst 3, 1) := by decide +kernel
theorem d_Law_law_574 : decode code 574 = .ok (.iadd, 1) := by decide +kernel
theorem d_Law_law_575 : decode code 575 = .ok (.iaload, 1) := by decide +kernel
theorem d_Law_law_576 : decode code 576 = .ok (.i2l, 1) := by decide +kernel
theorem d_Law_law_577 : decode code 577 = .ok (.ldc2_w 88, 3) := by decide +kernel
theorem u_2527 : Cond.constantLong "FilterGuardLaw" 88 4294967295 ∈ fg_g := fg_in (List.mem_of_getElem? (i := 2527) (by decide +kernel)) rfl
theorem d_Law_law_580 : decode code 580 = .ok (.land, 1) := by decide +kernel
theorem d_Law_law_581 : decode code 581 = .ok (.lor, 1) := by decide +kernel
theorem d_Law_law_582 : decode code 582 = .ok (.invokevirtual 90, 3) := by decide +kernel
theorem u_775 : Cond.methodLink "FilterGuardLaw" 90 ⟨"FilterGuard", "context", "(IJ)Z"⟩ ∈ fg_g := fg_in (List.mem_of_getElem? (i := 775) (by decide +kernel)) rfl
theorem u_778 : Cond.code ⟨"FilterGuard", "context", "(IJ)Z"⟩ prog_1_method_10_code 4 (some .boolean) ∈ fg_g := fg_in (List.mem_of_getElem? (i := 778) (by decide +kernel)) rfl
theorem u_776 : Cond.instanceMethod ⟨"FilterGuard", "context", "(IJ)Z"⟩ ∈ fg_g := fg_in (List.mem_of_getElem? (i := 776) (by decide +kernel)) rfl
theorem u_777 : Cond.selects "FilterGuard" ⟨"FilterGuard", "context", "(IJ)Z"⟩ ⟨"FilterGuard", "context", "(IJ)Z"⟩ ∈ fg_g := fg_in (List.mem_of_getElem? (i := 777) (by decide +kernel)) rfl
theorem d_Law_law_585 : decode code 585 = .ok (.aload_n 2, 1) := by decide +kernel
theorem d_Law_law_586 : decode code 586 = .ok (.aload_n 0, 1) := by decide +kernel
theorem d_Law_law_587 : decode code 587 = .ok (.iload 4, 2) := by decide +kernel
theorem d_Law_law_589 : decode code 589 = .ok (.iconst 1, 1) := by decide +kernel
theorem d_Law_law_590 : decode code 590 = .ok (.iadd, 1) := by decide +kernel
theorem d_Law_law_591 : decode code 591 = .ok (.iaload, 1) := by decide +kernel
theorem d_Law_law_592 : decode code 592 = .ok (.aload_n 0, 1) := by decide +kernel
theorem d_Law_law_593 : decode code 593 = .ok (.iload 4, 2) := by decide +kernel
theorem d_Law_law_595 : decode code 595 = .ok (.iconst 2, 1) := by decide +kernel
theorem d_Law_law_596 : decode code 596 = .ok (.iadd, 1) := by decide +kernel
theorem d_Law_law_597 : decode code 597 = .ok (.iaload, 1) := by decide +kernel
theorem d_Law_law_598 : decode code 598 = .ok (.i2l, 1) := by decide +kernel
theorem d_Law_law_599 : decode code 599 = .ok (.bipush 32, 2) := by decide +kernel
theorem d_Law_law_601 : decode code 601 = .ok (.lshl, 1) := by decide +kernel
theorem d_Law_law_602 : decode code 602 = .ok (.aload_n 0, 1) := by decide +kernel
theorem d_Law_law_603 : decode code 603 = .ok (.iload 4, 2) := by decide +kernel
theorem d_Law_law_605 : decode code 605 = .ok (.iconst 3, 1) := by decide +kernel
theorem d_Law_law_606 : decode code 606 = .ok (.iadd, 1) := by decide +kernel
theorem d_Law_law_607 : decode code 607 = .ok (.iaload, 1) := by decide +kernel
theorem d_Law_law_608 : decode code 608 = .ok (.i2l, 1) := by decide +kernel
theorem d_Law_law_609 : decode code 609 = .ok (.ldc2_w 88, 3) := by decide +kernel
theorem d_Law_law_612 : decode code 612 = .ok (.land, 1) := by decide +kernel
theorem d_Law_law_613 : decode code 613 = .ok (.lor, 1) := by decide +kernel
theorem d_Law_law_614 : decode code 614 = .ok (.invokevirtual 94, 3) := by decide +kernel
theorem u_2447 : Cond.methodLink "FilterGuardLaw" 94 ⟨"FilterGuardModel", "context", "(IJ)Z"⟩ ∈ fg_g := fg_in (List.mem_of_getElem? (i := 2447) (by decide +kernel)) rfl
theorem u_2450 : Cond.code ⟨"FilterGuardModel", "context", "(IJ)Z"⟩ prog_14_method_123_code 5 (some .boolean) ∈ fg_g := fg_in (List.mem_of_getElem? (i := 2450) (by decide +kernel)) rfl
theorem u_2448 : Cond.instanceMethod ⟨"FilterGuardModel", "context", "(IJ)Z"⟩ ∈ fg_g := fg_in (List.mem_of_getElem? (i := 2448) (by decide +kernel)) rfl
theorem u_2449 : Cond.selects "FilterGuardModel" ⟨"FilterGuardModel", "context", "(IJ)Z"⟩ ⟨"FilterGuardModel", "context", "(IJ)Z"⟩ ∈ fg_g := fg_in (List.mem_of_getElem? (i := 2449) (by decide +kernel)) rfl
theorem d_Law_law_617 : decode code 617 = .ok (.if_icmp .eq 412, 3) := by decide +kernel
set_option maxHeartbeats 4000000 in
set_option maxRecDepth 100000 in
theorem law_7 {p : Program} {l : Launch} {e : Env} {s : Jvm.State} {m : MethodId} {below : List Frame} {meth : Method} {c : Code} {b L i : Nat} {xs : Nat → Int32} {A : Nat → Prop} {D : va_G} {ca : Nat → ClassId} {ad bd : Nat → Nat → Nat} {N NR : Nat → Nat} {M M1 R R1 : me_M} {jo : Nat} {H : Heap} {locs : List Loc} {ls : Array Slot} {cells slots : Nat} {Q : Jvm.State → Prop} {r : Int32} (hl9 : l.stackTraces = false) (hx : p.tables.exec = Jvm.exec) (hb : c.code = code) (hml : c.maxLocals = 8) (hown : s.vm.findClass "FilterGuardLaw" = some m.cls) (hts : ∀ w ∈ fg_g, w.before #[Value.ref b] s = true) (hX : fg_X s) (hz : fg_Z A s s.heap) (hy : fg_Y s) (hXs : va_X b L xs s s.heap) (hbl : b < s.heap.size) (hbA : ¬ A b) (hA : ∀ q : Nat, s.heap.size ≤ q → A q) (hK : va_K D classes (me_T ca) s) (hL : L ≤ 3072) (hi : i + 6 ≤ L) (hwf : me_wf N M) (hwr : me_wf NR R) (hcl : me_cN N ≤ me_CL ∧ me_sN N ≤ me_SL) (h00 : 0 < N 0) (h10 : 0 < NR 1) (hjo : jo < N 16) (hP : va_P D classes (me_W ad ca M ++ me_W bd ca R) H) (hD : va_D A (me_W ad ca M ++ me_W bd ca R)) (hS : va_S A s.heap H locs) (hl : lv_has ls 8 [(4, .int (nI i)), (3, .ref (ad 16 jo)), (2, .ref (bd 1 0)), (1, .ref (ad 0 0)), (0, .ref b)]) (hfit : cells + (me_CL - me_cN N) + 8 ≤ 601024 ∧ slots + (me_SL - me_sN N) + 48 ≤ 7293034) (e1 : f_G_context M 0 (xs (i + 1)) ((jlshl ((xs (i + 2)).toInt64) (32 : Int32)) ||| (((xs (i + 3)).toInt64) &&& 4294967295)) = some (M1, r)) (e2 : f_M_context R 0 (xs (i + 1)) ((jlshl ((xs (i + 2)).toInt64) (32 : Int32)) ||| (((xs (i + 3)).toInt64) &&& 4294967295)) = some (R1, r)) (kk : ∀ (ad1 : Nat → Nat → Nat) (N1 : Nat → Nat) (H1 : Heap) (locs1 : List Loc) (ls1 : Array Slot) (cells1 slots1 : Nat), (∀ a, N a ≤ N1 a) → me_wf N1 M1 → me_wf NR R1 → (me_cN N1 ≤ me_CL ∧ me_sN N1 ≤ me_SL) → va_P D classes (me_W ad1 ca M1 ++ me_W bd ca R1) H1 → va_D A (me_W ad1 ca M1 ++ me_W bd ca R1) → va_S A s.heap H1 locs1 → lv_has ls1 8 [(4, .int (nI i)), (3, .ref (ad1 16 jo)), (2, .ref (bd 1 0)), (1, .ref (ad1 0 0)), (0, .ref b)] → cells1 + me_cN N ≤ cells + me_cN N1 + 1 → slots1 + me_sN N ≤ slots + me_sN N1 + 6 → W p l e room_1 s m #[Value.ref b] below meth c H1 locs1 cells1 slots1 Q (F0 m 1029 ls1 [])) : W p l e room_1 s m #[Value.ref b] below meth c H locs cells slots Q (F0 m 553 ls []) := by
  refine lv_aload_n hx hb d_Law_law_553 rfl (lv_at hl 3 rfl) ?_
  refine lv_aload_n hx hb d_Law_law_554 rfl (lv_at hl 4 rfl) ?_
  refine lv_iload hx hb d_Law_law_555 (lv_at hl 0 rfl) ?_
  refine lv_iconst (v := 1) hx hb d_Law_law_557 (by decide) ?_
  refine lv_iadd hx hb d_Law_law_558 ?_
  refine fg_topi (y := nI (i + 1)) (nI_add i 1) ?_
  refine va_sld hx hb hXs hbl hbA hS (nI_in (c := i + 1) (N := L) (by omega) (by omega)) d_Law_law_559 ?_
  refine fg_topi (y := xs (i + 1)) (by rw [nI_clamp (by omega)]) ?_
  refine lv_aload_n hx hb d_Law_law_560 rfl (lv_at hl 4 rfl) ?_
  refine lv_iload hx hb d_Law_law_561 (lv_at hl 0 rfl) ?_
  refine lv_iconst (v := 2) hx hb d_Law_law_563 (by decide) ?_
  refine lv_iadd hx hb d_Law_law_564 ?_
  refine fg_topi (y := nI (i + 2)) (nI_add i 2) ?_
  refine va_sld hx hb hXs hbl hbA hS (nI_in (c := i + 2) (N := L) (by omega) (by omega)) d_Law_law_565 ?_
  refine fg_topi (y := xs (i + 2)) (by rw [nI_clamp (by omega)]) ?_
  refine lv_i2l (v := (xs (i + 2)).toInt64) hx hb d_Law_law_566 rfl ?_
  refine lv_bipush (v := 32) hx hb d_Law_law_567 (by decide) ?_
  refine lv_lshl (v := jlshl ((xs (i + 2)).toInt64) (32 : Int32)) hx hb d_Law_law_569 rfl ?_
  refine lv_aload_n hx hb d_Law_law_570 rfl (lv_at hl 4 rfl) ?_
  refine lv_iload hx hb d_Law_law_571 (lv_at hl 0 rfl) ?_
  refine lv_iconst (v := 3) hx hb d_Law_law_573 (by decide) ?_
  refine lv_iadd hx hb d_Law_law_574 ?_
  refine fg_topi (y := nI (i + 3)) (nI_add i 3) ?_
  refine va_sld hx hb hXs hbl hbA hS (nI_in (c := i + 3) (N := L) (by omega) (by omega)) d_Law_law_575 ?_
  refine fg_topi (y := xs (i + 3)) (by rw [nI_clamp (by omega)]) ?_
  refine lv_i2l (v := (xs (i + 3)).toInt64) hx hb d_Law_law_576 rfl ?_
  refine lv_ldc2 hx hb hown (hts _ u_2527) d_Law_law_577 ?_
  refine lv_land hx hb d_Law_law_580 ?_
  refine lv_lor hx hb d_Law_law_581 ?_
  refine lw_Mi (r0 := r) (M1 := M1) (me_runV (C := "FilterGuard") (As := [.int (xs (i + 1)), .long ((jlshl ((xs (i + 2)).toInt64) (32 : Int32)) ||| (((xs (i + 3)).toInt64) &&& 4294967295))]) (rest := []) ⟨hx, hb, hml, hown, hts⟩ (c_G_context l D ad ca N M M1 r 0 (xs (i + 1)) ((jlshl ((xs (i + 2)).toInt64) (32 : Int32)) ||| (((xs (i + 3)).toInt64) &&& 4294967295)) e1 hwf h00 _) rfl (by show fg_nm y_G_context 2; decide +kernel) u_775 u_776 u_777 u_181 u_778 ⟨Nat.le_of_ble_eq_true rfl, Nat.le_of_ble_eq_true rfl⟩ hX hz.2 hK (fk_Pl hP) (fk_Dl hD) hwf hS hA h00 (by decide) rfl rfl rfl hl.1 (Nat.le_of_ble_eq_true rfl) d_Law_law_582 (by exact lw_f0 hfit)) hP hD hK hS hA (fun H locs hw hP hD hS => ?_)
  refine W.widen (k := cells) (n := slots) (Nat.le_refl _) (Nat.le_refl _) ?_
  have hwf := hw.1
  refine lv_aload_n hx hb d_Law_law_585 rfl (lv_at hl 2 rfl) ?_
  refine lv_aload_n hx hb d_Law_law_586 rfl (lv_at hl 4 rfl) ?_
  refine lv_iload hx hb d_Law_law_587 (lv_at hl 0 rfl) ?_
  refine lv_iconst (v := 1) hx hb d_Law_law_589 (by decide) ?_
  refine lv_iadd hx hb d_Law_law_590 ?_
  refine fg_topi (y := nI (i + 1)) (nI_add i 1) ?_
  refine va_sld hx hb hXs hbl hbA hS (nI_in (c := i + 1) (N := L) (by omega) (by omega)) d_Law_law_591 ?_
  refine fg_topi (y := xs (i + 1)) (by rw [nI_clamp (by omega)]) ?_
  refine lv_aload_n hx hb d_Law_law_592 rfl (lv_at hl 4 rfl) ?_
  refine lv_iload hx hb d_Law_law_593 (lv_at hl 0 rfl) ?_
  refine lv_iconst (v := 2) hx hb d_Law_law_595 (by decide) ?_
  refine lv_iadd hx hb d_Law_law_596 ?_
  refine fg_topi (y := nI (i + 2)) (nI_add i 2) ?_
  refine va_sld hx hb hXs hbl hbA hS (nI_in (c := i + 2) (N := L) (by omega) (by omega)) d_Law_law_597 ?_
  refine fg_topi (y := xs (i + 2)) (by rw [nI_clamp (by omega)]) ?_
  refine lv_i2l (v := (xs (i + 2)).toInt64) hx hb d_Law_law_598 rfl ?_
  refine lv_bipush (v := 32) hx hb d_Law_law_599 (by decide) ?_
  refine lv_lshl (v := jlshl ((xs (i + 2)).toInt64) (32 : Int32)) hx hb d_Law_law_601 rfl ?_
  refine lv_aload_n hx hb d_Law_law_602 rfl (lv_at hl 4 rfl) ?_
  refine lv_iload hx hb d_Law_law_603 (lv_at hl 0 rfl) ?_
  refine lv_iconst (v := 3) hx hb d_Law_law_605 (by decide) ?_
  refine lv_iadd hx hb d_Law_law_606 ?_
  refine fg_topi (y := nI (i + 3)) (nI_add i 3) ?_
  refine va_sld hx hb hXs hbl hbA hS (nI_in (c := i + 3) (N := L) (by omega) (by omega)) d_Law_law_607 ?_
  refine fg_topi (y := xs (i + 3)) (by rw [nI_clamp (by omega)]) ?_
  refine lv_i2l (v := (xs (i + 3)).toInt64) hx hb d_Law_law_608 rfl ?_
  refine lv_ldc2 hx hb hown (hts _ u_2527) d_Law_law_609 ?_
  refine lv_land hx hb d_Law_law_612 ?_
  refine lv_lor hx hb d_Law_law_613 ?_
  refine lw_Ri (r0 := r) (R1 := R1) (me_runV (C := "FilterGuardModel") (As := [.int (xs (i + 1)), .long ((jlshl ((xs (i + 2)).toInt64) (32 : Int32)) ||| (((xs (i + 3)).toInt64) &&& 4294967295))]) (rest := [.int r]) ⟨hx, hb, hml, hown, hts⟩ (c_M_context l D bd ca NR R R1 r 0 (xs (i + 1)) ((jlshl ((xs (i + 2)).toInt64) (32 : Int32)) ||| (((xs (i + 3)).toInt64) &&& 4294967295)) e2 hwr h10 _) rfl (by show fg_nm y_M_context 2; decide +kernel) u_2447 u_2448 u_2449 u_192 u_2450 ⟨Nat.le_of_ble_eq_true rfl, Nat.le_of_ble_eq_true rfl⟩ hX hz.2 hK (fk_Pr hP) (fk_Dr hD) hwr hS hA h10 (by decide) rfl rfl rfl hl.1 (Nat.le_of_ble_eq_true rfl) d_Law_law_614 (by exact lw_f0 hfit)) hP hD hK hS hA (fun H locs hw hP hD hS => ?_)
  refine W.widen (k := cells) (n := slots) (Nat.le_refl _) (Nat.le_refl _) ?_
  have hwr := hw.1
  refine lv_icmp_eq (tgt := 1029) hx hb d_Law_law_617 (by decide) (fun c9 => ?_) (fun c9 => absurd rfl c9)
  exact kk ad N _ _ _ _ _ (fun _ => Nat.le_refl _) hwf hwr hcl hP hD hS (lv_sub hl [0, 1, 2, 3, 4] rfl) (by omega) (by omega)
theorem d_Law_law_622 : decode code 622 = .ok (.aload_n 1, 1) := by decide +kernel
theorem d_Law_law_623 : decode code 623 = .ok (.aload_n 0, 1) := by decide +kernel
theorem d_Law_law_624 : decode code 624 = .ok (.iload 4, 2) := by decide +kernel
theorem d_Law_law_626 : decode code 626 = .ok (.iconst 1, 1) := by decide +kernel
theorem d_Law_law_627 : decode code 627 = .ok (.iadd, 1) := by decide +kernel
theorem d_Law_law_628 : decode code 628 = .ok (.iaload, 1) := by decide +kernel
theorem d_Law_law_629 : decode code 629 = .ok (.aload_n 3, 1) := by decide +kernel
theorem d_Law_law_630 : decode code 630 = .ok (.invokestatic 95, 3) := by decide +kernel
theorem u_1514 : Cond.methodLink "FilterGuardLaw" 95 ⟨"FilterGuardLaw", "put", "(LFilterGuard;I[J)I"⟩ ∈ fg_g := fg_in (List.mem_of_getElem? (i := 1514) (by decide +kernel)) rfl
theorem u_1516 : Cond.codeWith ⟨"FilterGuardLaw", "put", "(LFilterGuard;I[J)I"⟩ method_7_code 4 (some .int) [(0, 9, 12, 13)] ∈ fg_g := fg_in (List.mem_of_getElem? (i := 1516) (by decide +kernel)) rfl
theorem u_1515 : Cond.static ⟨"FilterGuardLaw", "put", "(LFilterGuard;I[J)I"⟩ ∈ fg_g := fg_in (List.mem_of_getElem? (i := 1515) (by decide +kernel)) rfl
theorem d_Law_law_633 : decode code 633 = .ok (.istore 5, 2) := by decide +kernel
theorem d_Law_law_635 : decode code 635 = .ok (.aload_n 2, 1) := by decide +kernel
theorem d_Law_law_636 : decode code 636 = .ok (.aload_n 0, 1) := by decide +kernel
theorem d_Law_law_637 : decode code 637 = .ok (.iload 4, 2) := by decide +kernel
theorem d_Law_law_639 : decode code 639 = .ok (.iconst 1, 1) := by decide +kernel
theorem d_Law_law_640 : decode code 640 = .ok (.iadd, 1) := by decide +kernel
theorem d_Law_law_641 : decode code 641 = .ok (.iaload, 1) := by decide +kernel
theorem d_Law_law_642 : decode code 642 = .ok (.invokevirtual 98, 3) := by decide +kernel
theorem u_2423 : Cond.methodLink "FilterGuardLaw" 98 ⟨"FilterGuardModel", "put", "(I)I"⟩ ∈ fg_g := fg_in (List.mem_of_getElem? (i := 2423) (by decide +kernel)) rfl
theorem u_2426 : Cond.code ⟨"FilterGuardModel", "put", "(I)I"⟩ prog_14_method_120_code 4 (some .int) ∈ fg_g := fg_in (List.mem_of_getElem? (i := 2426) (by decide +kernel)) rfl
theorem u_2424 : Cond.instanceMethod ⟨"FilterGuardModel", "put", "(I)I"⟩ ∈ fg_g := fg_in (List.mem_of_getElem? (i := 2424) (by decide +kernel)) rfl
theorem u_2425 : Cond.selects "FilterGuardModel" ⟨"FilterGuardModel", "put", "(I)I"⟩ ⟨"FilterGuardModel", "put", "(I)I"⟩ ∈ fg_g := fg_in (List.mem_of_getElem? (i := 2425) (by decide +kernel)) rfl
theorem d_Law_law_645 : decode code 645 = .ok (.istore 6, 2) := by decide +kernel
theorem d_Law_law_647 : decode code 647 = .ok (.aload_n 2, 1) := by decide +kernel
theorem d_Law_law_648 : decode code 648 = .ok (.invokevirtual 64, 3) := by decide +kernel
theorem d_Law_law_651 : decode code 651 = .ok (.iload 5, 2) := by decide +kernel
theorem d_Law_law_653 : decode code 653 = .ok (.if_icmp .eq 5, 3) := by decide +kernel
theorem d_Law_law_658 : decode code 658 = .ok (.iload 5, 2) := by decide +kernel
theorem d_Law_law_660 : decode code 660 = .ok (.ifCond .ne 15, 3) := by decide +kernel
theorem d_Law_law_663 : decode code 663 = .ok (.aload_n 3, 1) := by decide +kernel
theorem d_Law_law_664 : decode code 664 = .ok (.iconst 0, 1) := by decide +kernel
theorem d_Law_law_665 : decode code 665 = .ok (.laload, 1) := by decide +kernel
theorem d_Law_law_666 : decode code 666 = .ok (.iload 6, 2) := by decide +kernel
theorem d_Law_law_668 : decode code 668 = .ok (.i2l, 1) := by decide +kernel
theorem d_Law_law_669 : decode code 669 = .ok (.lcmp, 1) := by decide +kernel
theorem d_Law_law_670 : decode code 670 = .ok (.ifCond .eq 5, 3) := by decide +kernel
theorem d_Law_law_675 : decode code 675 = .ok (.goto 354, 3) := by decide +kernel
set_option maxHeartbeats 4000000 in
set_option maxRecDepth 100000 in
theorem law_8_0 {p : Program} {l : Launch} {e : Env} {s : Jvm.State} {m : MethodId} {below : List Frame} {meth : Method} {c : Code} {b L i : Nat} {xs : Nat → Int32} {A : Nat → Prop} {D : va_G} {ca : Nat → ClassId} {ad bd : Nat → Nat → Nat} {N NR : Nat → Nat} {M M1 R R1 : me_M} {jo : Nat} {H : Heap} {locs : List Loc} {ls : Array Slot} {cells slots : Nat} {Q : Jvm.State → Prop} {R2 : me_M} {rb : Int32} (hout : 0 < mZ M1 16 jo) (hl9 : l.stackTraces = false) (hx : p.tables.exec = Jvm.exec) (hb : c.code = code) (hml : c.maxLocals = 8) (hown : s.vm.findClass "FilterGuardLaw" = some m.cls) (hts : ∀ w ∈ fg_g, w.before #[Value.ref b] s = true) (hX : fg_X s) (hz : fg_Z A s s.heap) (hy : fg_Y s) (hXs : va_X b L xs s s.heap) (hbl : b < s.heap.size) (hbA : ¬ A b) (hA : ∀ q : Nat, s.heap.size ≤ q → A q) (hK : va_K D classes (me_T ca) s) (hL : L ≤ 3072) (hi : i + 6 ≤ L) (hwf : me_wf N M) (hwr : me_wf NR R) (hcl : me_cN N ≤ me_CL ∧ me_sN N ≤ me_SL) (h00 : 0 < N 0) (h10 : 0 < NR 1) (hjo : jo < N 16) (hP : va_P D classes (me_W ad ca M ++ me_W bd ca R) H) (hD : va_D A (me_W ad ca M ++ me_W bd ca R)) (hS : va_S A s.heap H locs) (hl : lv_has ls 8 [(4, .int (nI i)), (3, .ref (ad 16 jo)), (2, .ref (bd 1 0)), (1, .ref (ad 0 0)), (0, .ref b)]) (hfit : cells + (me_CL - me_cN N) + 8 ≤ 601024 ∧ slots + (me_SL - me_sN N) + 48 ≤ 7293034) (e1 : f_Law_put M 0 (xs (i + 1)) jo = some (M1, 0)) (e2 : f_M_put R 0 (xs (i + 1)) = some (R2, rb)) (e3 : f_M_thrown R2 0 = some (R1, 0)) (hob : mL M1 16 jo 0 = rb.toInt64) (kk : ∀ (ad1 : Nat → Nat → Nat) (N1 : Nat → Nat) (H1 : Heap) (locs1 : List Loc) (ls1 : Array Slot) (cells1 slots1 : Nat), (∀ a, N a ≤ N1 a) → me_wf N1 M1 → me_wf NR R1 → (me_cN N1 ≤ me_CL ∧ me_sN N1 ≤ me_SL) → va_P D classes (me_W ad1 ca M1 ++ me_W bd ca R1) H1 → va_D A (me_W ad1 ca M1 ++ me_W bd ca R1) → va_S A s.heap H1 locs1 → lv_has ls1 8 [(4, .int (nI i)), (3, .ref (ad1 16 jo)), (2, .ref (bd 1 0)), (1, .ref (ad1 0 0)), (0, .ref b)] → cells1 + me_cN N ≤ cells + me_cN N1 + 1 → slots1 + me_sN N ≤ slots + me_sN N1 + 6 → W p l e room_1 s m #[Value.ref b] below meth c H1 locs1 cells1 slots1 Q (F0 m 1029 ls1 [])) : W p l e room_1 s m #[Value.ref b] below meth c H locs cells slots Q (F0 m 622 ls []) := by
  refine lv_aload_n hx hb d_Law_law_622 rfl (lv_at hl 3 rfl) ?_
  refine lv_aload_n hx hb d_Law_law_623 rfl (lv_at hl 4 rfl) ?_
  refine lv_iload hx hb d_Law_law_624 (lv_at hl 0 rfl) ?_
  refine lv_iconst (v := 1) hx hb d_Law_law_626 (by decide) ?_
  refine lv_iadd hx hb d_Law_law_627 ?_
  refine fg_topi (y := nI (i + 1)) (nI_add i 1) ?_
  refine va_sld hx hb hXs hbl hbA hS (nI_in (c := i + 1) (N := L) (by omega) (by omega)) d_Law_law_628 ?_
  refine fg_topi (y := xs (i + 1)) (by rw [nI_clamp (by omega)]) ?_
  refine lv_aload_n hx hb d_Law_law_629 rfl (lv_at hl 1 rfl) ?_
  refine lw_Mi (r0 := 0) (M1 := M1) (al_runSH (As := [.ref (ad 0 0), .int (xs (i + 1)), .ref (ad 16 jo)]) (rest := []) ⟨hx, hb, hml, hown, hts⟩ (c_Law_put l D ad ca N M M1 0 0 (xs (i + 1)) jo e1 hwf h00 hjo _) (by show fg_nm y_Law_put 3; decide +kernel) u_1514 u_1515 u_180 u_1516 ⟨Nat.le_of_ble_eq_true rfl, Nat.le_of_ble_eq_true rfl⟩ hX (fk_Pl hP) hK (fk_Dl hD) hz hy hS hA rfl hl.1 (Nat.le_of_ble_eq_true rfl) d_Law_law_630 (by exact lw_f0 hfit)) hP hD hK hS hA (fun H locs hw hP hD hS => ?_)
  refine W.widen (k := cells) (n := slots) (Nat.le_refl _) (Nat.le_refl _) ?_
  have hwf := hw.1
  refine lv_istore (lv' := [(5, .int 0), (4, .int (nI i)), (3, .ref (ad 16 jo)), (2, .ref (bd 1 0)), (1, .ref (ad 0 0)), (0, .ref b)]) hx hb d_Law_law_633 hl (by decide) rfl (fun ls hl => ?_)
  refine lv_aload_n hx hb d_Law_law_635 rfl (lv_at hl 3 rfl) ?_
  refine lv_aload_n hx hb d_Law_law_636 rfl (lv_at hl 5 rfl) ?_
  refine lv_iload hx hb d_Law_law_637 (lv_at hl 1 rfl) ?_
  refine lv_iconst (v := 1) hx hb d_Law_law_639 (by decide) ?_
  refine lv_iadd hx hb d_Law_law_640 ?_
  refine fg_topi (y := nI (i + 1)) (nI_add i 1) ?_
  refine va_sld hx hb hXs hbl hbA hS (nI_in (c := i + 1) (N := L) (by omega) (by omega)) d_Law_law_641 ?_
  refine fg_topi (y := xs (i + 1)) (by rw [nI_clamp (by omega)]) ?_
  refine lw_Ri (r0 := rb) (R1 := R2) (me_runV (C := "FilterGuardModel") (As := [.int (xs (i + 1))]) (rest := []) ⟨hx, hb, hml, hown, hts⟩ (c_M_put l D bd ca NR R R2 rb 0 (xs (i + 1)) e2 hwr h10 _) rfl (by show fg_nm y_M_put 1; decide +kernel) u_2423 u_2424 u_2425 u_192 u_2426 ⟨Nat.le_of_ble_eq_true rfl, Nat.le_of_ble_eq_true rfl⟩ hX hz.2 hK (fk_Pr hP) (fk_Dr hD) hwr hS hA h10 (by decide) rfl rfl rfl hl.1 (Nat.le_of_ble_eq_true rfl) d_Law_law_642 (by exact lw_f0 hfit)) hP hD hK hS hA (fun H locs hw hP hD hS => ?_)
  refine W.widen (k := cells) (n := slots) (Nat.le_refl _) (Nat.le_refl _) ?_
  have hwr := hw.1
  refine lv_istore (lv' := [(6, .int rb), (5, .int 0), (4, .int (nI i)), (3, .ref (ad 16 jo)), (2, .ref (bd 1 0)), (1, .ref (ad 0 0)), (0, .ref b)]) hx hb d_Law_law_645 hl (by decide) rfl (fun ls hl => ?_)
  refine lv_aload_n hx hb d_Law_law_647 rfl (lv_at hl 4 rfl) ?_
  refine lw_Ri (r0 := 0) (R1 := R1) (me_runV (C := "FilterGuardModel") (As := []) (rest := []) ⟨hx, hb, hml, hown, hts⟩ (c_M_thrown l D bd ca NR R2 R1 (0 : Int32) 0 e3 hwr h10 _) rfl (by show fg_nm y_M_thrown 0; decide +kernel) u_1967 u_1968 u_1969 u_192 u_1970 ⟨Nat.le_of_ble_eq_true rfl, Nat.le_of_ble_eq_true rfl⟩ hX hz.2 hK (fk_Pr hP) (fk_Dr hD) hwr hS hA h10 (by decide) rfl rfl rfl hl.1 (Nat.le_of_ble_eq_true rfl) d_Law_law_648 (by exact lw_f0 hfit)) hP hD hK hS hA (fun H locs hw hP hD hS => ?_)
  refine W.widen (k := cells) (n := slots) (Nat.le_refl _) (Nat.le_refl _) ?_
  have hwr := hw.1
  refine lv_iload hx hb d_Law_law_651 (lv_at hl 1 rfl) ?_
  refine lv_icmp_eq (tgt := 658) hx hb d_Law_law_653 (by decide) (fun c9 => ?_) (fun c9 => absurd (by decide) c9)
  refine lv_iload hx hb d_Law_law_658 (lv_at hl 1 rfl) ?_
  refine lv_if_ne (tgt := 675) hx hb d_Law_law_660 (by decide) (fun c9 => absurd (by decide) c9) (fun c9 => ?_)
  refine lv_aload_n hx hb d_Law_law_663 rfl (lv_at hl 3 rfl) ?_
  refine lv_iconst (v := 0) hx hb d_Law_law_664 (by decide) ?_
  have hz9 : 0 < mZ M1 16 jo := hout
  refine me_lald hx hb hK (fk_Pl hP) hwf hjo (me_in (i := (0 : Int32)) (k := 0) (by decide) (by decide) hz9) d_Law_law_665 ?_
  refine fg_topl (y := mL M1 16 jo 0) (congrArg _ (by decide)) ?_
  refine lv_iload hx hb d_Law_law_666 (lv_at hl 0 rfl) ?_
  refine lv_i2l (v := rb.toInt64) hx hb d_Law_law_668 rfl ?_
  refine W.lcmp hx hb d_Law_law_669 ?_
  refine fg_topi (y := 0) ((lg_cmp_eq _ _).mpr hob) ?_
  refine lv_if_eq (tgt := 675) hx hb d_Law_law_670 (by decide) (fun c9 => ?_) (fun c9 => absurd (by decide) c9)
  refine lv_goto (tgt := 1029) hx hb d_Law_law_675 (by decide) ?_
  exact kk ad N _ _ _ _ _ (fun _ => Nat.le_refl _) hwf hwr hcl hP hD hS (lv_sub hl [2, 3, 4, 5, 6] rfl) (by omega) (by omega)
set_option maxHeartbeats 4000000 in
set_option maxRecDepth 100000 in
theorem law_8_1 {p : Program} {l : Launch} {e : Env} {s : Jvm.State} {m : MethodId} {below : List Frame} {meth : Method} {c : Code} {b L i : Nat} {xs : Nat → Int32} {A : Nat → Prop} {D : va_G} {ca : Nat → ClassId} {ad bd : Nat → Nat → Nat} {N NR : Nat → Nat} {M M1 R R1 : me_M} {jo : Nat} {H : Heap} {locs : List Loc} {ls : Array Slot} {cells slots : Nat} {Q : Jvm.State → Prop} {R2 : me_M} {rb : Int32} (hl9 : l.stackTraces = false) (hx : p.tables.exec = Jvm.exec) (hb : c.code = code) (hml : c.maxLocals = 8) (hown : s.vm.findClass "FilterGuardLaw" = some m.cls) (hts : ∀ w ∈ fg_g, w.before #[Value.ref b] s = true) (hX : fg_X s) (hz : fg_Z A s s.heap) (hy : fg_Y s) (hXs : va_X b L xs s s.heap) (hbl : b < s.heap.size) (hbA : ¬ A b) (hA : ∀ q : Nat, s.heap.size ≤ q → A q) (hK : va_K D classes (me_T ca) s) (hL : L ≤ 3072) (hi : i + 6 ≤ L) (hwf : me_wf N M) (hwr : me_wf NR R) (hcl : me_cN N ≤ me_CL ∧ me_sN N ≤ me_SL) (h00 : 0 < N 0) (h10 : 0 < NR 1) (hjo : jo < N 16) (hP : va_P D classes (me_W ad ca M ++ me_W bd ca R) H) (hD : va_D A (me_W ad ca M ++ me_W bd ca R)) (hS : va_S A s.heap H locs) (hl : lv_has ls 8 [(4, .int (nI i)), (3, .ref (ad 16 jo)), (2, .ref (bd 1 0)), (1, .ref (ad 0 0)), (0, .ref b)]) (hfit : cells + (me_CL - me_cN N) + 8 ≤ 601024 ∧ slots + (me_SL - me_sN N) + 48 ≤ 7293034) (e1 : fT1_G_put M 0 (xs (i + 1)) = some M1) (e2 : f_M_put R 0 (xs (i + 1)) = some (R2, rb)) (e3 : f_M_thrown R2 0 = some (R1, 1)) (kk : ∀ (ad1 : Nat → Nat → Nat) (N1 : Nat → Nat) (H1 : Heap) (locs1 : List Loc) (ls1 : Array Slot) (cells1 slots1 : Nat), (∀ a, N a ≤ N1 a) → me_wf N1 M1 → me_wf NR R1 → (me_cN N1 ≤ me_CL ∧ me_sN N1 ≤ me_SL) → va_P D classes (me_W ad1 ca M1 ++ me_W bd ca R1) H1 → va_D A (me_W ad1 ca M1 ++ me_W bd ca R1) → va_S A s.heap H1 locs1 → lv_has ls1 8 [(4, .int (nI i)), (3, .ref (ad1 16 jo)), (2, .ref (bd 1 0)), (1, .ref (ad1 0 0)), (0, .ref b)] → cells1 + me_cN N ≤ cells + me_cN N1 + 1 → slots1 + me_sN N ≤ slots + me_sN N1 + 6 → W p l e room_1 s m #[Value.ref b] below meth c H1 locs1 cells1 slots1 Q (F0 m 1029 ls1 [])) : W p l e room_1 s m #[Value.ref b] below meth c H locs cells slots Q (F0 m 622 ls []) := by
  refine lv_aload_n hx hb d_Law_law_622 rfl (lv_at hl 3 rfl) ?_
  refine lv_aload_n hx hb d_Law_law_623 rfl (lv_at hl 4 rfl) ?_
  refine lv_iload hx hb d_Law_law_624 (lv_at hl 0 rfl) ?_
  refine lv_iconst (v := 1) hx hb d_Law_law_626 (by decide) ?_
  refine lv_iadd hx hb d_Law_law_627 ?_
  refine fg_topi (y := nI (i + 1)) (nI_add i 1) ?_
  refine va_sld hx hb hXs hbl hbA hS (nI_in (c := i + 1) (N := L) (by omega) (by omega)) d_Law_law_628 ?_
  refine fg_topi (y := xs (i + 1)) (by rw [nI_clamp (by omega)]) ?_
  refine lv_aload_n hx hb d_Law_law_629 rfl (lv_at hl 1 rfl) ?_
  refine lw_Mi (r0 := 1) (M1 := M1) (al_runSH (As := [.ref (ad 0 0), .int (xs (i + 1)), .ref (ad 16 jo)]) (rest := []) ⟨hx, hb, hml, hown, hts⟩ (cH1_Law_put l hl9 D ad ca N M M1 0 (xs (i + 1)) jo e1 hwf h00 hjo _) (by show fg_nm y_Law_put 3; decide +kernel) u_1514 u_1515 u_180 u_1516 ⟨Nat.le_of_ble_eq_true rfl, Nat.le_of_ble_eq_true rfl⟩ hX (fk_Pl hP) hK (fk_Dl hD) hz hy hS hA rfl hl.1 (Nat.le_of_ble_eq_true rfl) d_Law_law_630 (by exact lw_f1 hfit)) hP hD hK hS hA (fun H locs hw hP hD hS => ?_)
  obtain ⟨cells0, hc0⟩ : ∃ z, z = cells := ⟨_, rfl⟩
  obtain ⟨slots0, hs0⟩ : ∃ z, z = slots := ⟨_, rfl⟩
  refine W.widen (k := cells + 1) (n := slots + 6) (Nat.le_refl _) (Nat.le_refl _) ?_
  have hwf := hw
  have hfit := lw_ft hfit
  generalize hce : cells + 1 = cells1 at hfit ⊢
  generalize hse : slots + 6 = slots1 at hfit ⊢
  refine lv_istore (lv' := [(5, .int 1), (4, .int (nI i)), (3, .ref (ad 16 jo)), (2, .ref (bd 1 0)), (1, .ref (ad 0 0)), (0, .ref b)]) hx hb d_Law_law_633 hl (by decide) rfl (fun ls hl => ?_)
  refine lv_aload_n hx hb d_Law_law_635 rfl (lv_at hl 3 rfl) ?_
  refine lv_aload_n hx hb d_Law_law_636 rfl (lv_at hl 5 rfl) ?_
  refine lv_iload hx hb d_Law_law_637 (lv_at hl 1 rfl) ?_
  refine lv_iconst (v := 1) hx hb d_Law_law_639 (by decide) ?_
  refine lv_iadd hx hb d_Law_law_640 ?_
  refine fg_topi (y := nI (i + 1)) (nI_add i 1) ?_
  refine va_sld hx hb hXs hbl hbA hS (nI_in (c := i + 1) (N := L) (by omega) (by omega)) d_Law_law_641 ?_
  refine fg_topi (y := xs (i + 1)) (by rw [nI_clamp (by omega)]) ?_
  refine lw_Ri (r0 := rb) (R1 := R2) (me_runV (C := "FilterGuardModel") (As := [.int (xs (i + 1))]) (rest := []) ⟨hx, hb, hml, hown, hts⟩ (c_M_put l D bd ca NR R R2 rb 0 (xs (i + 1)) e2 hwr h10 _) rfl (by show fg_nm y_M_put 1; decide +kernel) u_2423 u_2424 u_2425 u_192 u_2426 ⟨Nat.le_of_ble_eq_true rfl, Nat.le_of_ble_eq_true rfl⟩ hX hz.2 hK (fk_Pr hP) (fk_Dr hD) hwr hS hA h10 (by decide) rfl rfl rfl hl.1 (Nat.le_of_ble_eq_true rfl) d_Law_law_642 (by exact lw_f2 hfit)) hP hD hK hS hA (fun H locs hw hP hD hS => ?_)
  refine W.widen (k := cells1) (n := slots1) (Nat.le_refl _) (Nat.le_refl _) ?_
  have hwr := hw.1
  refine lv_istore (lv' := [(6, .int rb), (5, .int 1), (4, .int (nI i)), (3, .ref (ad 16 jo)), (2, .ref (bd 1 0)), (1, .ref (ad 0 0)), (0, .ref b)]) hx hb d_Law_law_645 hl (by decide) rfl (fun ls hl => ?_)
  refine lv_aload_n hx hb d_Law_law_647 rfl (lv_at hl 4 rfl) ?_
  refine lw_Ri (r0 := 1) (R1 := R1) (me_runV (C := "FilterGuardModel") (As := []) (rest := []) ⟨hx, hb, hml, hown, hts⟩ (c_M_thrown l D bd ca NR R2 R1 (1 : Int32) 0 e3 hwr h10 _) rfl (by show fg_nm y_M_thrown 0; decide +kernel) u_1967 u_1968 u_1969 u_192 u_1970 ⟨Nat.le_of_ble_eq_true rfl, Nat.le_of_ble_eq_true rfl⟩ hX hz.2 hK (fk_Pr hP) (fk_Dr hD) hwr hS hA h10 (by decide) rfl rfl rfl hl.1 (Nat.le_of_ble_eq_true rfl) d_Law_law_648 (by exact lw_f2 hfit)) hP hD hK hS hA (fun H locs hw hP hD hS => ?_)
  refine W.widen (k := cells1) (n := slots1) (Nat.le_refl _) (Nat.le_refl _) ?_
  have hwr := hw.1
  refine lv_iload hx hb d_Law_law_651 (lv_at hl 1 rfl) ?_
  refine lv_icmp_eq (tgt := 658) hx hb d_Law_law_653 (by decide) (fun c9 => ?_) (fun c9 => absurd (by decide) c9)
  refine lv_iload hx hb d_Law_law_658 (lv_at hl 1 rfl) ?_
  refine lv_if_ne (tgt := 675) hx hb d_Law_law_660 (by decide) (fun c9 => ?_) (fun c9 => absurd c9 (by decide))
  refine lv_goto (tgt := 1029) hx hb d_Law_law_675 (by decide) ?_
  exact kk ad N _ _ _ _ _ (fun _ => Nat.le_refl _) hwf hwr hcl hP hD hS (lv_sub hl [2, 3, 4, 5, 6] rfl) (by omega) (by omega)
theorem d_Law_law_678 : decode code 678 = .ok (.aload_n 1, 1) := by decide +kernel
theorem d_Law_law_679 : decode code 679 = .ok (.aload_n 0, 1) := by decide +kernel
theorem d_Law_law_680 : decode code 680 = .ok (.iload 4, 2) := by decide +kernel
theorem d_Law_law_682 : decode code 682 = .ok (.iconst 1, 1) := by decide +kernel
theorem d_Law_law_683 : decode code 683 = .ok (.iadd, 1) := by decide +kernel
theorem d_Law_law_684 : decode code 684 = .ok (.iaload, 1) := by decide +kernel
theorem d_Law_law_685 : decode code 685 = .ok (.aload_n 0, 1) := by decide +kernel
theorem d_Law_law_686 : decode code 686 = .ok (.iload 4, 2) := by decide +kernel
theorem d_Law_law_688 : decode code 688 = .ok (.iconst 2, 1) := by decide +kernel
theorem d_Law_law_689 : decode code 689 = .ok (.iadd, 1) := by decide +kernel
theorem d_Law_law_690 : decode code 690 = .ok (.iaload, 1) := by decide +kernel
theorem d_Law_law_691 : decode code 691 = .ok (.aload_n 0, 1) := by decide +kernel
theorem d_Law_law_692 : decode code 692 = .ok (.iload 4, 2) := by decide +kernel
theorem d_Law_law_694 : decode code 694 = .ok (.iconst 3, 1) := by decide +kernel
theorem d_Law_law_695 : decode code 695 = .ok (.iadd, 1) := by decide +kernel
theorem d_Law_law_696 : decode code 696 = .ok (.iaload, 1) := by decide +kernel
theorem d_Law_law_697 : decode code 697 = .ok (.aload_n 3, 1) := by decide +kernel
theorem d_Law_law_698 : decode code 698 = .ok (.invokestatic 99, 3) := by decide +kernel
theorem u_1539 : Cond.methodLink "FilterGuardLaw" 99 ⟨"FilterGuardLaw", "entry", "(LFilterGuard;III[J)I"⟩ ∈ fg_g := fg_in (List.mem_of_getElem? (i := 1539) (by decide +kernel)) rfl
theorem u_1541 : Cond.codeWith ⟨"FilterGuardLaw", "entry", "(LFilterGuard;III[J)I"⟩ method_8_code 6 (some .int) [(0, 12, 15, 25)] ∈ fg_g := fg_in (List.mem_of_getElem? (i := 1541) (by decide +kernel)) rfl
theorem u_1540 : Cond.static ⟨"FilterGuardLaw", "entry", "(LFilterGuard;III[J)I"⟩ ∈ fg_g := fg_in (List.mem_of_getElem? (i := 1540) (by decide +kernel)) rfl
theorem d_Law_law_701 : decode code 701 = .ok (.istore 5, 2) := by decide +kernel
theorem d_Law_law_703 : decode code 703 = .ok (.aload_n 2, 1) := by decide +kernel
theorem d_Law_law_704 : decode code 704 = .ok (.aload_n 0, 1) := by decide +kernel
theorem d_Law_law_705 : decode code 705 = .ok (.iload 4, 2) := by decide +kernel
theorem d_Law_law_707 : decode code 707 = .ok (.iconst 1, 1) := by decide +kernel
theorem d_Law_law_708 : decode code 708 = .ok (.iadd, 1) := by decide +kernel
theorem d_Law_law_709 : decode code 709 = .ok (.iaload, 1) := by decide +kernel
theorem d_Law_law_710 : decode code 710 = .ok (.aload_n 0, 1) := by decide +kernel
theorem d_Law_law_711 : decode code 711 = .ok (.iload 4, 2) := by decide +kernel
theorem d_Law_law_713 : decode code 713 = .ok (.iconst 2, 1) := by decide +kernel
theorem d_Law_law_714 : decode code 714 = .ok (.iadd, 1) := by decide +kernel
theorem d_Law_law_715 : decode code 715 = .ok (.iaload, 1) := by decide +kernel
theorem d_Law_law_716 : decode code 716 = .ok (.aload_n 0, 1) := by decide +kernel
theorem d_Law_law_717 : decode code 717 = .ok (.iload 4, 2) := by decide +kernel
theorem d_Law_law_719 : decode code 719 = .ok (.iconst 3, 1) := by decide +kernel
theorem d_Law_law_720 : decode code 720 = .ok (.iadd, 1) := by decide +kernel
theorem d_Law_law_721 : decode code 721 = .ok (.iaload, 1) := by decide +kernel
theorem d_Law_law_722 : decode code 722 = .ok (.invokevirtual 102, 3) := by decide +kernel
theorem u_2439 : Cond.methodLink "FilterGuardLaw" 102 ⟨"FilterGuardModel", "entry", "(III)I"⟩ ∈ fg_g := fg_in (List.mem_of_getElem? (i := 2439) (by decide +kernel)) rfl
theorem u_2442 : Cond.code ⟨"FilterGuardModel", "entry", "(III)I"⟩ prog_14_method_121_code 8 (some .int) ∈ fg_g := fg_in (List.mem_of_getElem? (i := 2442) (by decide +kernel)) rfl
theorem u_2440 : Cond.instanceMethod ⟨"FilterGuardModel", "entry", "(III)I"⟩ ∈ fg_g := fg_in (List.mem_of_getElem? (i := 2440) (by decide +kernel)) rfl
theorem u_2441 : Cond.selects "FilterGuardModel" ⟨"FilterGuardModel", "entry", "(III)I"⟩ ⟨"FilterGuardModel", "entry", "(III)I"⟩ ∈ fg_g := fg_in (List.mem_of_getElem? (i := 2441) (by decide +kernel)) rfl
theorem d_Law_law_725 : decode code 725 = .ok (.istore 6, 2) := by decide +kernel
theorem d_Law_law_727 : decode code 727 = .ok (.aload_n 2, 1) := by decide +kernel
theorem d_Law_law_728 : decode code 728 = .ok (.invokevirtual 64, 3) := by decide +kernel
theorem d_Law_law_731 : decode code 731 = .ok (.iload 5, 2) := by decide +kernel
theorem d_Law_law_733 : decode code 733 = .ok (.if_icmp .eq 5, 3) := by decide +kernel
theorem d_Law_law_738 : decode code 738 = .ok (.iload 5, 2) := by decide +kernel
theorem d_Law_law_740 : decode code 740 = .ok (.ifCond .ne 15, 3) := by decide +kernel
theorem d_Law_law_743 : decode code 743 = .ok (.aload_n 3, 1) := by decide +kernel
theorem d_Law_law_744 : decode code 744 = .ok (.iconst 0, 1) := by decide +kernel
theorem d_Law_law_745 : decode code 745 = .ok (.laload, 1) := by decide +kernel
theorem d_Law_law_746 : decode code 746 = .ok (.iload 6, 2) := by decide +kernel
theorem d_Law_law_748 : decode code 748 = .ok (.i2l, 1) := by decide +kernel
theorem d_Law_law_749 : decode code 749 = .ok (.lcmp, 1) := by decide +kernel
theorem d_Law_law_750 : decode code 750 = .ok (.ifCond .eq 5, 3) := by decide +kernel
theorem d_Law_law_755 : decode code 755 = .ok (.goto 274, 3) := by decide +kernel
set_option maxHeartbeats 4000000 in
set_option maxRecDepth 100000 in
theorem law_9_0 {p : Program} {l : Launch} {e : Env} {s : Jvm.State} {m : MethodId} {below : List Frame} {meth : Method} {c : Code} {b L i : Nat} {xs : Nat → Int32} {A : Nat → Prop} {D : va_G} {ca : Nat → ClassId} {ad bd : Nat → Nat → Nat} {N NR : Nat → Nat} {M M1 R R1 : me_M} {jo : Nat} {H : Heap} {locs : List Loc} {ls : Array Slot} {cells slots : Nat} {Q : Jvm.State → Prop} {R2 : me_M} {rb : Int32} (hout : 0 < mZ M1 16 jo) (hl9 : l.stackTraces = false) (hx : p.tables.exec = Jvm.exec) (hb : c.code = code) (hml : c.maxLocals = 8) (hown : s.vm.findClass "FilterGuardLaw" = some m.cls) (hts : ∀ w ∈ fg_g, w.before #[Value.ref b] s = true) (hX : fg_X s) (hz : fg_Z A s s.heap) (hy : fg_Y s) (hXs : va_X b L xs s s.heap) (hbl : b < s.heap.size) (hbA : ¬ A b) (hA : ∀ q : Nat, s.heap.size ≤ q → A q) (hK : va_K D classes (me_T ca) s) (hL : L ≤ 3072) (hi : i + 6 ≤ L) (hwf : me_wf N M) (hwr : me_wf NR R) (hcl : me_cN N ≤ me_CL ∧ me_sN N ≤ me_SL) (h00 : 0 < N 0) (h10 : 0 < NR 1) (hjo : jo < N 16) (hP : va_P D classes (me_W ad ca M ++ me_W bd ca R) H) (hD : va_D A (me_W ad ca M ++ me_W bd ca R)) (hS : va_S A s.heap H locs) (hl : lv_has ls 8 [(4, .int (nI i)), (3, .ref (ad 16 jo)), (2, .ref (bd 1 0)), (1, .ref (ad 0 0)), (0, .ref b)]) (hfit : cells + (me_CL - me_cN N) + 8 ≤ 601024 ∧ slots + (me_SL - me_sN N) + 48 ≤ 7293034) (e1 : f_Law_entry M 0 (xs (i + 1)) (xs (i + 2)) (xs (i + 3)) jo = some (M1, 0)) (e2 : f_M_entry R 0 (xs (i + 1)) (xs (i + 2)) (xs (i + 3)) = some (R2, rb)) (e3 : f_M_thrown R2 0 = some (R1, 0)) (hob : mL M1 16 jo 0 = rb.toInt64) (kk : ∀ (ad1 : Nat → Nat → Nat) (N1 : Nat → Nat) (H1 : Heap) (locs1 : List Loc) (ls1 : Array Slot) (cells1 slots1 : Nat), (∀ a, N a ≤ N1 a) → me_wf N1 M1 → me_wf NR R1 → (me_cN N1 ≤ me_CL ∧ me_sN N1 ≤ me_SL) → va_P D classes (me_W ad1 ca M1 ++ me_W bd ca R1) H1 → va_D A (me_W ad1 ca M1 ++ me_W bd ca R1) → va_S A s.heap H1 locs1 → lv_has ls1 8 [(4, .int (nI i)), (3, .ref (ad1 16 jo)), (2, .ref (bd 1 0)), (1, .ref (ad1 0 0)), (0, .ref b)] → cells1 + me_cN N ≤ cells + me_cN N1 + 1 → slots1 + me_sN N ≤ slots + me_sN N1 + 6 → W p l e room_1 s m #[Value.ref b] below meth c H1 locs1 cells1 slots1 Q (F0 m 1029 ls1 [])) : W p l e room_1 s m #[Value.ref b] below meth c H locs cells slots Q (F0 m 678 ls []) := by
  refine lv_aload_n hx hb d_Law_law_678 rfl (lv_at hl 3 rfl) ?_
  refine lv_aload_n hx hb d_Law_law_679 rfl (lv_at hl 4 rfl) ?_
  refine lv_iload hx hb d_Law_law_680 (lv_at hl 0 rfl) ?_
  refine lv_iconst (v := 1) hx hb d_Law_law_682 (by decide) ?_
  refine lv_iadd hx hb d_Law_law_683 ?_
  refine fg_topi (y := nI (i + 1)) (nI_add i 1) ?_
  refine va_sld hx hb hXs hbl hbA hS (nI_in (c := i + 1) (N := L) (by omega) (by omega)) d_Law_law_684 ?_
  refine fg_topi (y := xs (i + 1)) (by rw [nI_clamp (by omega)]) ?_
  refine lv_aload_n hx hb d_Law_law_685 rfl (lv_at hl 4 rfl) ?_
  refine lv_iload hx hb d_Law_law_686 (lv_at hl 0 rfl) ?_
  refine lv_iconst (v := 2) hx hb d_Law_law_688 (by decide) ?_
  refine lv_iadd hx hb d_Law_law_689 ?_
  refine fg_topi (y := nI (i + 2)) (nI_add i 2) ?_
  refine va_sld hx hb hXs hbl hbA hS (nI_in (c := i + 2) (N := L) (by omega) (by omega)) d_Law_law_690 ?_
  refine fg_topi (y := xs (i + 2)) (by rw [nI_clamp (by omega)]) ?_
  refine lv_aload_n hx hb d_Law_law_691 rfl (lv_at hl 4 rfl) ?_
  refine lv_iload hx hb d_Law_law_692 (lv_at hl 0 rfl) ?_
  refine lv_iconst (v := 3) hx hb d_Law_law_694 (by decide) ?_
  refine lv_iadd hx hb d_Law_law_695 ?_
  refine fg_topi (y := nI (i + 3)) (nI_add i 3) ?_
  refine va_sld hx hb hXs hbl hbA hS (nI_in (c := i + 3) (N := L) (by omega) (by omega)) d_Law_law_696 ?_
  refine fg_topi (y := xs (i + 3)) (by rw [nI_clamp (by omega)]) ?_
  refine lv_aload_n hx hb d_Law_law_697 rfl (lv_at hl 1 rfl) ?_
  refine lw_Mi (r0 := 0) (M1 := M1) (al_runSH (As := [.ref (ad 0 0), .int (xs (i + 1)), .int (xs (i + 2)), .int (xs (i + 3)), .ref (ad 16 jo)]) (rest := []) ⟨hx, hb, hml, hown, hts⟩ (c_Law_entry l D ad ca N M M1 0 0 (xs (i + 1)) (xs (i + 2)) (xs (i + 3)) jo e1 hwf h00 hjo _) (by show fg_nm y_Law_entry 5; decide +kernel) u_1539 u_1540 u_180 u_1541 ⟨Nat.le_of_ble_eq_true rfl, Nat.le_of_ble_eq_true rfl⟩ hX (fk_Pl hP) hK (fk_Dl hD) hz hy hS hA rfl hl.1 (Nat.le_of_ble_eq_true rfl) d_Law_law_698 (by exact lw_f0 hfit)) hP hD hK hS hA (fun H locs hw hP hD hS => ?_)
  refine W.widen (k := cells) (n := slots) (Nat.le_refl _) (Nat.le_refl _) ?_
  have hwf := hw.1
  refine lv_istore (lv' := [(5, .int 0), (4, .int (nI i)), (3, .ref (ad 16 jo)), (2, .ref (bd 1 0)), (1, .ref (ad 0 0)), (0, .ref b)]) hx hb d_Law_law_701 hl (by decide) rfl (fun ls hl => ?_)
  refine lv_aload_n hx hb d_Law_law_703 rfl (lv_at hl 3 rfl) ?_
  refine lv_aload_n hx hb d_Law_law_704 rfl (lv_at hl 5 rfl) ?_
  refine lv_iload hx hb d_Law_law_705 (lv_at hl 1 rfl) ?_
  refine lv_iconst (v := 1) hx hb d_Law_law_707 (by decide) ?_
  refine lv_iadd hx hb d_Law_law_708 ?_
  refine fg_topi (y := nI (i + 1)) (nI_add i 1) ?_
  refine va_sld hx hb hXs hbl hbA hS (nI_in (c := i + 1) (N := L) (by omega) (by omega)) d_Law_law_709 ?_
  refine fg_topi (y := xs (i + 1)) (by rw [nI_clamp (by omega)]) ?_
  refine lv_aload_n hx hb d_Law_law_710 rfl (lv_at hl 5 rfl) ?_
  refine lv_iload hx hb d_Law_law_711 (lv_at hl 1 rfl) ?_
  refine lv_iconst (v := 2) hx hb d_Law_law_713 (by decide) ?_
  refine lv_iadd hx hb d_Law_law_714 ?_
  refine fg_topi (y := nI (i + 2)) (nI_add i 2) ?_
  refine va_sld hx hb hXs hbl hbA hS (nI_in (c := i + 2) (N := L) (by omega) (by omega)) d_Law_law_715 ?_
  refine fg_topi (y := xs (i + 2)) (by rw [nI_clamp (by omega)]) ?_
  refine lv_aload_n hx hb d_Law_law_716 rfl (lv_at hl 5 rfl) ?_
  refine lv_iload hx hb d_Law_law_717 (lv_at hl 1 rfl) ?_
  refine lv_iconst (v := 3) hx hb d_Law_law_719 (by decide) ?_
  refine lv_iadd hx hb d_Law_law_720 ?_
  refine fg_topi (y := nI (i + 3)) (nI_add i 3) ?_
  refine va_sld hx hb hXs hbl hbA hS (nI_in (c := i + 3) (N := L) (by omega) (by omega)) d_Law_law_721 ?_
  refine fg_topi (y := xs (i + 3)) (by rw [nI_clamp (by omega)]) ?_
  refine lw_Ri (r0 := rb) (R1 := R2) (me_runV (C := "FilterGuardModel") (As := [.int (xs (i + 1)), .int (xs (i + 2)), .int (xs (i + 3))]) (rest := []) ⟨hx, hb, hml, hown, hts⟩ (c_M_entry l D bd ca NR R R2 rb 0 (xs (i + 1)) (xs (i + 2)) (xs (i + 3)) e2 hwr h10 _) rfl (by show fg_nm y_M_entry 3; decide +kernel) u_2439 u_2440 u_2441 u_192 u_2442 ⟨Nat.le_of_ble_eq_true rfl, Nat.le_of_ble_eq_true rfl⟩ hX hz.2 hK (fk_Pr hP) (fk_Dr hD) hwr hS hA h10 (by decide) rfl rfl rfl hl.1 (Nat.le_of_ble_eq_true rfl) d_Law_law_722 (by exact lw_f0 hfit)) hP hD hK hS hA (fun H locs hw hP hD hS => ?_)
  refine W.widen (k := cells) (n := slots) (Nat.le_refl _) (Nat.le_refl _) ?_
  have hwr := hw.1
  refine lv_istore (lv' := [(6, .int rb), (5, .int 0), (4, .int (nI i)), (3, .ref (ad 16 jo)), (2, .ref (bd 1 0)), (1, .ref (ad 0 0)), (0, .ref b)]) hx hb d_Law_law_725 hl (by decide) rfl (fun ls hl => ?_)
  refine lv_aload_n hx hb d_Law_law_727 rfl (lv_at hl 4 rfl) ?_
  refine lw_Ri (r0 := 0) (R1 := R1) (me_runV (C := "FilterGuardModel") (As := []) (rest := []) ⟨hx, hb, hml, hown, hts⟩ (c_M_thrown l D bd ca NR R2 R1 (0 : Int32) 0 e3 hwr h10 _) rfl (by show fg_nm y_M_thrown 0; decide +kernel) u_1967 u_1968 u_1969 u_192 u_1970 ⟨Nat.le_of_ble_eq_true rfl, Nat.le_of_ble_eq_true rfl⟩ hX hz.2 hK (fk_Pr hP) (fk_Dr hD) hwr hS hA h10 (by decide) rfl rfl rfl hl.1 (Nat.le_of_ble_eq_true rfl) d_Law_law_728 (by exact lw_f0 hfit)) hP hD hK hS hA (fun H locs hw hP hD hS => ?_)
  refine W.widen (k := cells) (n := slots) (Nat.le_refl _) (Nat.le_refl _) ?_
  have hwr := hw.1
  refine lv_iload hx hb d_Law_law_731 (lv_at hl 1 rfl) ?_
  refine lv_icmp_eq (tgt := 738) hx hb d_Law_law_733 (by decide) (fun c9 => ?_) (fun c9 => absurd (by decide) c9)
  refine lv_iload hx hb d_Law_law_738 (lv_at hl 1 rfl) ?_
  refine lv_if_ne (tgt := 755) hx hb d_Law_law_740 (by decide) (fun c9 => absurd (by decide) c9) (fun c9 => ?_)
  refine lv_aload_n hx hb d_Law_law_743 rfl (lv_at hl 3 rfl) ?_
  refine lv_iconst (v := 0) hx hb d_Law_law_744 (by decide) ?_
  have hz9 : 0 < mZ M1 16 jo := hout
  refine me_lald hx hb hK (fk_Pl hP) hwf hjo (me_in (i := (0 : Int32)) (k := 0) (by decide) (by decide) hz9) d_Law_law_745 ?_
  refine fg_topl (y := mL M1 16 jo 0) (congrArg _ (by decide)) ?_
  refine lv_iload hx hb d_Law_law_746 (lv_at hl 0 rfl) ?_
  refine lv_i2l (v := rb.toInt64) hx hb d_Law_law_748 rfl ?_
  refine W.lcmp hx hb d_Law_law_749 ?_
  refine fg_topi (y := 0) ((lg_cmp_eq _ _).mpr hob) ?_
  refine lv_if_eq (tgt := 755) hx hb d_Law_law_750 (by decide) (fun c9 => ?_) (fun c9 => absurd (by decide) c9)
  refine lv_goto (tgt := 1029) hx hb d_Law_law_755 (by decide) ?_
  exact kk ad N _ _ _ _ _ (fun _ => Nat.le_refl _) hwf hwr hcl hP hD hS (lv_sub hl [2, 3, 4, 5, 6] rfl) (by omega) (by omega)
set_option maxHeartbeats 4000000 in
set_option maxRecDepth 100000 in
theorem law_9_1 {p : Program} {l : Launch} {e : Env} {s : Jvm.State} {m : MethodId} {below : List Frame} {meth : Method} {c : Code} {b L i : Nat} {xs : Nat → Int32} {A : Nat → Prop} {D : va_G} {ca : Nat → ClassId} {ad bd : Nat → Nat → Nat} {N NR : Nat → Nat} {M M1 R R1 : me_M} {jo : Nat} {H : Heap} {locs : List Loc} {ls : Array Slot} {cells slots : Nat} {Q : Jvm.State → Prop} {R2 : me_M} {rb : Int32} (hl9 : l.stackTraces = false) (hx : p.tables.exec = Jvm.exec) (hb : c.code = code) (hml : c.maxLocals = 8) (hown : s.vm.findClass "FilterGuardLaw" = some m.cls) (hts : ∀ w ∈ fg_g, w.before #[Value.ref b] s = true) (hX : fg_X s) (hz : fg_Z A s s.heap) (hy : fg_Y s) (hXs : va_X b L xs s s.heap) (hbl : b < s.heap.size) (hbA : ¬ A b) (hA : ∀ q : Nat, s.heap.size ≤ q → A q) (hK : va_K D classes (me_T ca) s) (hL : L ≤ 3072) (hi : i + 6 ≤ L) (hwf : me_wf N M) (hwr : me_wf NR R) (hcl : me_cN N ≤ me_CL ∧ me_sN N ≤ me_SL) (h00 : 0 < N 0) (h10 : 0 < NR 1) (hjo : jo < N 16) (hP : va_P D classes (me_W ad ca M ++ me_W bd ca R) H) (hD : va_D A (me_W ad ca M ++ me_W bd ca R)) (hS : va_S A s.heap H locs) (hl : lv_has ls 8 [(4, .int (nI i)), (3, .ref (ad 16 jo)), (2, .ref (bd 1 0)), (1, .ref (ad 0 0)), (0, .ref b)]) (hfit : cells + (me_CL - me_cN N) + 8 ≤ 601024 ∧ slots + (me_SL - me_sN N) + 48 ≤ 7293034) (e1 : fT3_G_entry M 0 (xs (i + 1)) (xs (i + 2)) (xs (i + 3)) = some M1) (e2 : f_M_entry R 0 (xs (i + 1)) (xs (i + 2)) (xs (i + 3)) = some (R2, rb)) (e3 : f_M_thrown R2 0 = some (R1, 1)) (kk : ∀ (ad1 : Nat → Nat → Nat) (N1 : Nat → Nat) (H1 : Heap) (locs1 : List Loc) (ls1 : Array Slot) (cells1 slots1 : Nat), (∀ a, N a ≤ N1 a) → me_wf N1 M1 → me_wf NR R1 → (me_cN N1 ≤ me_CL ∧ me_sN N1 ≤ me_SL) → va_P D classes (me_W ad1 ca M1 ++ me_W bd ca R1) H1 → va_D A (me_W ad1 ca M1 ++ me_W bd ca R1) → va_S A s.heap H1 locs1 → lv_has ls1 8 [(4, .int (nI i)), (3, .ref (ad1 16 jo)), (2, .ref (bd 1 0)), (1, .ref (ad1 0 0)), (0, .ref b)] → cells1 + me_cN N ≤ cells + me_cN N1 + 1 → slots1 + me_sN N ≤ slots + me_sN N1 + 6 → W p l e room_1 s m #[Value.ref b] below meth c H1 locs1 cells1 slots1 Q (F0 m 1029 ls1 [])) : W p l e room_1 s m #[Value.ref b] below meth c H locs cells slots Q (F0 m 678 ls []) := by
  refine lv_aload_n hx hb d_Law_law_678 rfl (lv_at hl 3 rfl) ?_
  refine lv_aload_n hx hb d_Law_law_679 rfl (lv_at hl 4 rfl) ?_
  refine lv_iload hx hb d_Law_law_680 (lv_at hl 0 rfl) ?_
  refine lv_iconst (v := 1) hx hb d_Law_law_682 (by decide) ?_
  refine lv_iadd hx hb d_Law_law_683 ?_
  refine fg_topi (y := nI (i + 1)) (nI_add i 1) ?_
  refine va_sld hx hb hXs hbl hbA hS (nI_in (c := i + 1) (N := L) (by omega) (by omega)) d_Law_law_684 ?_
  refine fg_topi (y := xs (i + 1)) (by rw [nI_clamp (by omega)]) ?_
  refine lv_aload_n hx hb d_Law_law_685 rfl (lv_at hl 4 rfl) ?_
  refine lv_iload hx hb d_Law_law_686 (lv_at hl 0 rfl) ?_
  refine lv_iconst (v := 2) hx hb d_Law_law_688 (by decide) ?_
  refine lv_iadd hx hb d_Law_law_689 ?_
  refine fg_topi (y := nI (i + 2)) (nI_add i 2) ?_
  refine va_sld hx hb hXs hbl hbA hS (nI_in (c := i + 2) (N := L) (by omega) (by omega)) d_Law_law_690 ?_
  refine fg_topi (y := xs (i + 2)) (by rw [nI_clamp (by omega)]) ?_
  refine lv_aload_n hx hb d_Law_law_691 rfl (lv_at hl 4 rfl) ?_
  refine lv_iload hx hb d_Law_law_692 (lv_at hl 0 rfl) ?_
  refine lv_iconst (v := 3) hx hb d_Law_law_694 (by decide) ?_
  refine lv_iadd hx hb d_Law_law_695 ?_
  refine fg_topi (y := nI (i + 3)) (nI_add i 3) ?_
  refine va_sld hx hb hXs hbl hbA hS (nI_in (c := i + 3) (N := L) (by omega) (by omega)) d_Law_law_696 ?_
  refine fg_topi (y := xs (i + 3)) (by rw [nI_clamp (by omega)]) ?_
  refine lv_aload_n hx hb d_Law_law_697 rfl (lv_at hl 1 rfl) ?_
  refine lw_Mi (r0 := 1) (M1 := M1) (al_runSH (As := [.ref (ad 0 0), .int (xs (i + 1)), .int (xs (i + 2)), .int (xs (i + 3)), .ref (ad 16 jo)]) (rest := []) ⟨hx, hb, hml, hown, hts⟩ (cH3_Law_entry l hl9 D ad ca N M M1 0 (xs (i + 1)) (xs (i + 2)) (xs (i + 3)) jo e1 hwf h00 hjo _) (by show fg_nm y_Law_entry 5; decide +kernel) u_1539 u_1540 u_180 u_1541 ⟨Nat.le_of_ble_eq_true rfl, Nat.le_of_ble_eq_true rfl⟩ hX (fk_Pl hP) hK (fk_Dl hD) hz hy hS hA rfl hl.1 (Nat.le_of_ble_eq_true rfl) d_Law_law_698 (by exact lw_f1 hfit)) hP hD hK hS hA (fun H locs hw hP hD hS => ?_)
  obtain ⟨cells0, hc0⟩ : ∃ z, z = cells := ⟨_, rfl⟩
  obtain ⟨slots0, hs0⟩ : ∃ z, z = slots := ⟨_, rfl⟩
  refine W.widen (k := cells + 1) (n := slots + 6) (Nat.le_refl _) (Nat.le_refl _) ?_
  have hwf := hw
  have hfit := lw_ft hfit
  generalize hce : cells + 1 = cells1 at hfit ⊢
  generalize hse : slots + 6 = slots1 at hfit ⊢
  refine lv_istore (lv' := [(5, .int 1), (4, .int (nI i)), (3, .ref (ad 16 jo)), (2, .ref (bd 1 0)), (1, .ref (ad 0 0)), (0, .ref b)]) hx hb d_Law_law_701 hl (by decide) rfl (fun ls hl => ?_)
  refine lv_aload_n hx hb d_Law_law_703 rfl (lv_at hl 3 rfl) ?_
  refine lv_aload_n hx hb d_Law_law_704 rfl (lv_at hl 5 rfl) ?_
  refine lv_iload hx hb d_Law_law_705 (lv_at hl 1 rfl) ?_
  refine lv_iconst (v := 1) hx hb d_Law_law_707 (by decide) ?_
  refine lv_iadd hx hb d_Law_law_708 ?_
  refine fg_topi (y := nI (i + 1)) (nI_add i 1) ?_
  refine va_sld hx hb hXs hbl hbA hS (nI_in (c := i + 1) (N := L) (by omega) (by omega)) d_Law_law_709 ?_
  refine fg_topi (y := xs (i + 1)) (by rw [nI_clamp (by omega)]) ?_
  refine lv_aload_n hx hb d_Law_law_710 rfl (lv_at hl 5 rfl) ?_
  refine lv_iload hx hb d_Law_law_711 (lv_at hl 1 rfl) ?_
  refine lv_iconst (v := 2) hx hb d_Law_law_713 (by decide) ?_
  refine lv_iadd hx hb d_Law_law_714 ?_
  refine fg_topi (y := nI (i + 2)) (nI_add i 2) ?_
  refine va_sld hx hb hXs hbl hbA hS (nI_in (c := i + 2) (N := L) (by omega) (by omega)) d_Law_law_715 ?_
  refine fg_topi (y := xs (i + 2)) (by rw [nI_clamp (by omega)]) ?_
  refine lv_aload_n hx hb d_Law_law_716 rfl (lv_at hl 5 rfl) ?_
  refine lv_iload hx hb d_Law_law_717 (lv_at hl 1 rfl) ?_
  refine lv_iconst (v := 3) hx hb d_Law_law_719 (by decide) ?_
  refine lv_iadd hx hb d_Law_law_720 ?_
  refine fg_topi (y := nI (i + 3)) (nI_add i 3) ?_
  refine va_sld hx hb hXs hbl hbA hS (nI_in (c := i + 3) (N := L) (by omega) (by omega)) d_Law_law_721 ?_
  refine fg_topi (y := xs (i + 3)) (by rw [nI_clamp (by omega)]) ?_
  refine lw_Ri (r0 := rb) (R1 := R2) (me_runV (C := "FilterGuardModel") (As := [.int (xs (i + 1)), .int (xs (i + 2)), .int (xs (i + 3))]) (rest := []) ⟨hx, hb, hml, hown, hts⟩ (c_M_entry l D bd ca NR R R2 rb 0 (xs (i + 1)) (xs (i + 2)) (xs (i + 3)) e2 hwr h10 _) rfl (by show fg_nm y_M_entry 3; decide +kernel) u_2439 u_2440 u_2441 u_192 u_2442 ⟨Nat.le_of_ble_eq_true rfl, Nat.le_of_ble_eq_true rfl⟩ hX hz.2 hK (fk_Pr hP) (fk_Dr hD) hwr hS hA h10 (by decide) rfl rfl rfl hl.1 (Nat.le_of_ble_eq_true rfl) d_Law_law_722 (by exact lw_f2 hfit)) hP hD hK hS hA (fun H locs hw hP hD hS => ?_)
  refine W.widen (k := cells1) (n := slots1) (Nat.le_refl _) (Nat.le_refl _) ?_
  have hwr := hw.1
  refine lv_istore (lv' := [(6, .int rb), (5, .int 1), (4, .int (nI i)), (3, .ref (ad 16 jo)), (2, .ref (bd 1 0)), (1, .ref (ad 0 0)), (0, .ref b)]) hx hb d_Law_law_725 hl (by decide) rfl (fun ls hl => ?_)
  refine lv_aload_n hx hb d_Law_law_727 rfl (lv_at hl 4 rfl) ?_
  refine lw_Ri (r0 := 1) (R1 := R1) (me_runV (C := "FilterGuardModel") (As := []) (rest := []) ⟨hx, hb, hml, hown, hts⟩ (c_M_thrown l D bd ca NR R2 R1 (1 : Int32) 0 e3 hwr h10 _) rfl (by show fg_nm y_M_thrown 0; decide +kernel) u_1967 u_1968 u_1969 u_192 u_1970 ⟨Nat.le_of_ble_eq_true rfl, Nat.le_of_ble_eq_true rfl⟩ hX hz.2 hK (fk_Pr hP) (fk_Dr hD) hwr hS hA h10 (by decide) rfl rfl rfl hl.1 (Nat.le_of_ble_eq_true rfl) d_Law_law_728 (by exact lw_f2 hfit)) hP hD hK hS hA (fun H locs hw hP hD hS => ?_)
  refine W.widen (k := cells1) (n := slots1) (Nat.le_refl _) (Nat.le_refl _) ?_
  have hwr := hw.1
  refine lv_iload hx hb d_Law_law_731 (lv_at hl 1 rfl) ?_
  refine lv_icmp_eq (tgt := 738) hx hb d_Law_law_733 (by decide) (fun c9 => ?_) (fun c9 => absurd (by decide) c9)
  refine lv_iload hx hb d_Law_law_738 (lv_at hl 1 rfl) ?_
  refine lv_if_ne (tgt := 755) hx hb d_Law_law_740 (by decide) (fun c9 => ?_) (fun c9 => absurd c9 (by decide))
  refine lv_goto (tgt := 1029) hx hb d_Law_law_755 (by decide) ?_
  exact kk ad N _ _ _ _ _ (fun _ => Nat.le_refl _) hwf hwr hcl hP hD hS (lv_sub hl [2, 3, 4, 5, 6] rfl) (by omega) (by omega)
theorem d_Law_law_758 : decode code 758 = .ok (.aload_n 1, 1) := by decide +kernel
theorem d_Law_law_759 : decode code 759 = .ok (.aload_n 0, 1) := by decide +kernel
theorem d_Law_law_760 : decode code 760 = .ok (.iload 4, 2) := by decide +kernel
theorem d_Law_law_762 : decode code 762 = .ok (.iconst 1, 1) := by decide +kernel
theorem d_Law_law_763 : decode code 763 = .ok (.iadd, 1) := by decide +kernel
theorem d_Law_law_764 : decode code 764 = .ok (.iaload, 1) := by decide +kernel
theorem d_Law_law_765 : decode code 765 = .ok (.aload_n 3, 1) := by decide +kernel
theorem d_Law_law_766 : decode code 766 = .ok (.invokestatic 103, 3) := by decide +kernel
theorem u_1555 : Cond.methodLink "FilterGuardLaw" 103 ⟨"FilterGuardLaw", "packetAt", "(LFilterGuard;I[J)I"⟩ ∈ fg_g := fg_in (List.mem_of_getElem? (i := 1555) (by decide +kernel)) rfl
theorem u_1557 : Cond.codeWith ⟨"FilterGuardLaw", "packetAt", "(LFilterGuard;I[J)I"⟩ method_9_code 4 (some .int) [(0, 9, 12, 25)] ∈ fg_g := fg_in (List.mem_of_getElem? (i := 1557) (by decide +kernel)) rfl
theorem u_1556 : Cond.static ⟨"FilterGuardLaw", "packetAt", "(LFilterGuard;I[J)I"⟩ ∈ fg_g := fg_in (List.mem_of_getElem? (i := 1556) (by decide +kernel)) rfl
theorem d_Law_law_769 : decode code 769 = .ok (.istore 5, 2) := by decide +kernel
theorem d_Law_law_771 : decode code 771 = .ok (.aload_n 2, 1) := by decide +kernel
theorem d_Law_law_772 : decode code 772 = .ok (.aload_n 0, 1) := by decide +kernel
theorem d_Law_law_773 : decode code 773 = .ok (.iload 4, 2) := by decide +kernel
theorem d_Law_law_775 : decode code 775 = .ok (.iconst 1, 1) := by decide +kernel
theorem d_Law_law_776 : decode code 776 = .ok (.iadd, 1) := by decide +kernel
theorem d_Law_law_777 : decode code 777 = .ok (.iaload, 1) := by decide +kernel
theorem d_Law_law_778 : decode code 778 = .ok (.invokevirtual 105, 3) := by decide +kernel
theorem u_2451 : Cond.methodLink "FilterGuardLaw" 105 ⟨"FilterGuardModel", "packetAt", "(I)I"⟩ ∈ fg_g := fg_in (List.mem_of_getElem? (i := 2451) (by decide +kernel)) rfl
theorem u_2454 : Cond.code ⟨"FilterGuardModel", "packetAt", "(I)I"⟩ prog_14_method_124_code 2 (some .int) ∈ fg_g := fg_in (List.mem_of_getElem? (i := 2454) (by decide +kernel)) rfl
theorem u_2452 : Cond.instanceMethod ⟨"FilterGuardModel", "packetAt", "(I)I"⟩ ∈ fg_g := fg_in (List.mem_of_getElem? (i := 2452) (by decide +kernel)) rfl
theorem u_2453 : Cond.selects "FilterGuardModel" ⟨"FilterGuardModel", "packetAt", "(I)I"⟩ ⟨"FilterGuardModel", "packetAt", "(I)I"⟩ ∈ fg_g := fg_in (List.mem_of_getElem? (i := 2453) (by decide +kernel)) rfl
theorem d_Law_law_781 : decode code 781 = .ok (.istore 6, 2) := by decide +kernel
theorem d_Law_law_783 : decode code 783 = .ok (.aload_n 2, 1) := by decide +kernel
theorem d_Law_law_784 : decode code 784 = .ok (.invokevirtual 64, 3) := by decide +kernel
theorem d_Law_law_787 : decode code 787 = .ok (.iload 5, 2) := by decide +kernel
theorem d_Law_law_789 : decode code 789 = .ok (.if_icmp .eq 5, 3) := by decide +kernel
theorem d_Law_law_794 : decode code 794 = .ok (.iload 5, 2) := by decide +kernel
theorem d_Law_law_796 : decode code 796 = .ok (.ifCond .ne 15, 3) := by decide +kernel
theorem d_Law_law_799 : decode code 799 = .ok (.aload_n 3, 1) := by decide +kernel
theorem d_Law_law_800 : decode code 800 = .ok (.iconst 0, 1) := by decide +kernel
theorem d_Law_law_801 : decode code 801 = .ok (.laload, 1) := by decide +kernel
theorem d_Law_law_802 : decode code 802 = .ok (.iload 6, 2) := by decide +kernel
theorem d_Law_law_804 : decode code 804 = .ok (.i2l, 1) := by decide +kernel
theorem d_Law_law_805 : decode code 805 = .ok (.lcmp, 1) := by decide +kernel
theorem d_Law_law_806 : decode code 806 = .ok (.ifCond .eq 5, 3) := by decide +kernel
theorem d_Law_law_811 : decode code 811 = .ok (.goto 218, 3) := by decide +kernel
set_option maxHeartbeats 4000000 in
set_option maxRecDepth 100000 in
theorem law_10_0 {p : Program} {l : Launch} {e : Env} {s : Jvm.State} {m : MethodId} {below : List Frame} {meth : Method} {c : Code} {b L i : Nat} {xs : Nat → Int32} {A : Nat → Prop} {D : va_G} {ca : Nat → ClassId} {ad bd : Nat → Nat → Nat} {N NR : Nat → Nat} {M M1 R R1 : me_M} {jo : Nat} {H : Heap} {locs : List Loc} {ls : Array Slot} {cells slots : Nat} {Q : Jvm.State → Prop} {R2 : me_M} {rb : Int32} (hout : 0 < mZ M1 16 jo) (hl9 : l.stackTraces = false) (hx : p.tables.exec = Jvm.exec) (hb : c.code = code) (hml : c.maxLocals = 8) (hown : s.vm.findClass "FilterGuardLaw" = some m.cls) (hts : ∀ w ∈ fg_g, w.before #[Value.ref b] s = true) (hX : fg_X s) (hz : fg_Z A s s.heap) (hy : fg_Y s) (hXs : va_X b L xs s s.heap) (hbl : b < s.heap.size) (hbA : ¬ A b) (hA : ∀ q : Nat, s.heap.size ≤ q → A q) (hK : va_K D classes (me_T ca) s) (hL : L ≤ 3072) (hi : i + 6 ≤ L) (hwf : me_wf N M) (hwr : me_wf NR R) (hcl : me_cN N ≤ me_CL ∧ me_sN N ≤ me_SL) (h00 : 0 < N 0) (h10 : 0 < NR 1) (hjo : jo < N 16) (hP : va_P D classes (me_W ad ca M ++ me_W bd ca R) H) (hD : va_D A (me_W ad ca M ++ me_W bd ca R)) (hS : va_S A s.heap H locs) (hl : lv_has ls 8 [(4, .int (nI i)), (3, .ref (ad 16 jo)), (2, .ref (bd 1 0)), (1, .ref (ad 0 0)), (0, .ref b)]) (hfit : cells + (me_CL - me_cN N) + 8 ≤ 601024 ∧ slots + (me_SL - me_sN N) + 48 ≤ 7293034) (e1 : f_Law_packetAt M 0 (xs (i + 1)) jo = some (M1, 0)) (e2 : f_M_packetAt R 0 (xs (i + 1)) = some (R2, rb)) (e3 : f_M_thrown R2 0 = some (R1, 0)) (hob : mL M1 16 jo 0 = rb.toInt64) (kk : ∀ (ad1 : Nat → Nat → Nat) (N1 : Nat → Nat) (H1 : Heap) (locs1 : List Loc) (ls1 : Array Slot) (cells1 slots1 : Nat), (∀ a, N a ≤ N1 a) → me_wf N1 M1 → me_wf NR R1 → (me_cN N1 ≤ me_CL ∧ me_sN N1 ≤ me_SL) → va_P D classes (me_W ad1 ca M1 ++ me_W bd ca R1) H1 → va_D A (me_W ad1 ca M1 ++ me_W bd ca R1) → va_S A s.heap H1 locs1 → lv_has ls1 8 [(4, .int (nI i)), (3, .ref (ad1 16 jo)), (2, .ref (bd 1 0)), (1, .ref (ad1 0 0)), (0, .ref b)] → cells1 + me_cN N ≤ cells + me_cN N1 + 1 → slots1 + me_sN N ≤ slots + me_sN N1 + 6 → W p l e room_1 s m #[Value.ref b] below meth c H1 locs1 cells1 slots1 Q (F0 m 1029 ls1 [])) : W p l e room_1 s m #[Value.ref b] below meth c H locs cells slots Q (F0 m 758 ls []) := by
  refine lv_aload_n hx hb d_Law_law_758 rfl (lv_at hl 3 rfl) ?_
  refine lv_aload_n hx hb d_Law_law_759 rfl (lv_at hl 4 rfl) ?_
  refine lv_iload hx hb d_Law_law_760 (lv_at hl 0 rfl) ?_
  refine lv_iconst (v := 1) hx hb d_Law_law_762 (by decide) ?_
  refine lv_iadd hx hb d_Law_law_763 ?_
  refine fg_topi (y := nI (i + 1)) (nI_add i 1) ?_
  refine va_sld hx hb hXs hbl hbA hS (nI_in (c := i + 1) (N := L) (by omega) (by omega)) d_Law_law_764 ?_
  refine fg_topi (y := xs (i + 1)) (by rw [nI_clamp (by omega)]) ?_
  refine lv_aload_n hx hb d_Law_law_765 rfl (lv_at hl 1 rfl) ?_
  refine lw_Mi (r0 := 0) (M1 := M1) (al_runSH (As := [.ref (ad 0 0), .int (xs (i + 1)), .ref (ad 16 jo)]) (rest := []) ⟨hx, hb, hml, hown, hts⟩ (c_Law_packetAt l D ad ca N M M1 0 0 (xs (i + 1)) jo e1 hwf h00 hjo _) (by show fg_nm y_Law_packetAt 3; decide +kernel) u_1555 u_1556 u_180 u_1557 ⟨Nat.le_of_ble_eq_true rfl, Nat.le_of_ble_eq_true rfl⟩ hX (fk_Pl hP) hK (fk_Dl hD) hz hy hS hA rfl hl.1 (Nat.le_of_ble_eq_true rfl) d_Law_law_766 (by exact lw_f0 hfit)) hP hD hK hS hA (fun H locs hw hP hD hS => ?_)
  refine W.widen (k := cells) (n := slots) (Nat.le_refl _) (Nat.le_refl _) ?_
  have hwf := hw.1
  refine lv_istore (lv' := [(5, .int 0), (4, .int (nI i)), (3, .ref (ad 16 jo)), (2, .ref (bd 1 0)), (1, .ref (ad 0 0)), (0, .ref b)]) hx hb d_Law_law_769 hl (by decide) rfl (fun ls hl => ?_)
  refine lv_aload_n hx hb d_Law_law_771 rfl (lv_at hl 3 rfl) ?_
  refine lv_aload_n hx hb d_Law_law_772 rfl (lv_at hl 5 rfl) ?_
  refine lv_iload hx hb d_Law_law_773 (lv_at hl 1 rfl) ?_
  refine lv_iconst (v := 1) hx hb d_Law_law_775 (by decide) ?_
  refine lv_iadd hx hb d_Law_law_776 ?_
  refine fg_topi (y := nI (i + 1)) (nI_add i 1) ?_
  refine va_sld hx hb hXs hbl hbA hS (nI_in (c := i + 1) (N := L) (by omega) (by omega)) d_Law_law_777 ?_
  refine fg_topi (y := xs (i + 1)) (by rw [nI_clamp (by omega)]) ?_
  refine lw_Ri (r0 := rb) (R1 := R2) (me_runV (C := "FilterGuardModel") (As := [.int (xs (i + 1))]) (rest := []) ⟨hx, hb, hml, hown, hts⟩ (c_M_packetAt l D bd ca NR R R2 rb 0 (xs (i + 1)) e2 hwr h10 _) rfl (by show fg_nm y_M_packetAt 1; decide +kernel) u_2451 u_2452 u_2453 u_192 u_2454 ⟨Nat.le_of_ble_eq_true rfl, Nat.le_of_ble_eq_true rfl⟩ hX hz.2 hK (fk_Pr hP) (fk_Dr hD) hwr hS hA h10 (by decide) rfl rfl rfl hl.1 (Nat.le_of_ble_eq_true rfl) d_Law_law_778 (by exact lw_f0 hfit)) hP hD hK hS hA (fun H locs hw hP hD hS => ?_)
  refine W.widen (k := cells) (n := slots) (Nat.le_refl _) (Nat.le_refl _) ?_
  have hwr := hw.1
  refine lv_istore (lv' := [(6, .int rb), (5, .int 0), (4, .int (nI i)), (3, .ref (ad 16 jo)), (2, .ref (bd 1 0)), (1, .ref (ad 0 0)), (0, .ref b)]) hx hb d_Law_law_781 hl (by decide) rfl (fun ls hl => ?_)
  refine lv_aload_n hx hb d_Law_law_783 rfl (lv_at hl 4 rfl) ?_
  refine lw_Ri (r0 := 0) (R1 := R1) (me_runV (C := "FilterGuardModel") (As := []) (rest := []) ⟨hx, hb, hml, hown, hts⟩ (c_M_thrown l D bd ca NR R2 R1 (0 : Int32) 0 e3 hwr h10 _) rfl (by show fg_nm y_M_thrown 0; decide +kernel) u_1967 u_1968 u_1969 u_192 u_1970 ⟨Nat.le_of_ble_eq_true rfl, Nat.le_of_ble_eq_true rfl⟩ hX hz.2 hK (fk_Pr hP) (fk_Dr hD) hwr hS hA h10 (by decide) rfl rfl rfl hl.1 (Nat.le_of_ble_eq_true rfl) d_Law_law_784 (by exact lw_f0 hfit)) hP hD hK hS hA (fun H locs hw hP hD hS => ?_)
  refine W.widen (k := cells) (n := slots) (Nat.le_refl _) (Nat.le_refl _) ?_
  have hwr := hw.1
  refine lv_iload hx hb d_Law_law_787 (lv_at hl 1 rfl) ?_
  refine lv_icmp_eq (tgt := 794) hx hb d_Law_law_789 (by decide) (fun c9 => ?_) (fun c9 => absurd (by decide) c9)
  refine lv_iload hx hb d_Law_law_794 (lv_at hl 1 rfl) ?_
  refine lv_if_ne (tgt := 811) hx hb d_Law_law_796 (by decide) (fun c9 => absurd (by decide) c9) (fun c9 => ?_)
  refine lv_aload_n hx hb d_Law_law_799 rfl (lv_at hl 3 rfl) ?_
  refine lv_iconst (v := 0) hx hb d_Law_law_800 (by decide) ?_
  have hz9 : 0 < mZ M1 16 jo := hout
  refine me_lald hx hb hK (fk_Pl hP) hwf hjo (me_in (i := (0 : Int32)) (k := 0) (by decide) (by decide) hz9) d_Law_law_801 ?_
  refine fg_topl (y := mL M1 16 jo 0) (congrArg _ (by decide)) ?_
  refine lv_iload hx hb d_Law_law_802 (lv_at hl 0 rfl) ?_
  refine lv_i2l (v := rb.toInt64) hx hb d_Law_law_804 rfl ?_
  refine W.lcmp hx hb d_Law_law_805 ?_
  refine fg_topi (y := 0) ((lg_cmp_eq _ _).mpr hob) ?_
  refine lv_if_eq (tgt := 811) hx hb d_Law_law_806 (by decide) (fun c9 => ?_) (fun c9 => absurd (by decide) c9)
  refine lv_goto (tgt := 1029) hx hb d_Law_law_811 (by decide) ?_
  exact kk ad N _ _ _ _ _ (fun _ => Nat.le_refl _) hwf hwr hcl hP hD hS (lv_sub hl [2, 3, 4, 5, 6] rfl) (by omega) (by omega)
set_option maxHeartbeats 4000000 in
set_option maxRecDepth 100000 in
theorem law_10_1 {p : Program} {l : Launch} {e : Env} {s : Jvm.State} {m : MethodId} {below : List Frame} {meth : Method} {c : Code} {b L i : Nat} {xs : Nat → Int32} {A : Nat → Prop} {D : va_G} {ca : Nat → ClassId} {ad bd : Nat → Nat → Nat} {N NR : Nat → Nat} {M M1 R R1 : me_M} {jo : Nat} {H : Heap} {locs : List Loc} {ls : Array Slot} {cells slots : Nat} {Q : Jvm.State → Prop} {R2 : me_M} {rb : Int32} (hl9 : l.stackTraces = false) (hx : p.tables.exec = Jvm.exec) (hb : c.code = code) (hml : c.maxLocals = 8) (hown : s.vm.findClass "FilterGuardLaw" = some m.cls) (hts : ∀ w ∈ fg_g, w.before #[Value.ref b] s = true) (hX : fg_X s) (hz : fg_Z A s s.heap) (hy : fg_Y s) (hXs : va_X b L xs s s.heap) (hbl : b < s.heap.size) (hbA : ¬ A b) (hA : ∀ q : Nat, s.heap.size ≤ q → A q) (hK : va_K D classes (me_T ca) s) (hL : L ≤ 3072) (hi : i + 6 ≤ L) (hwf : me_wf N M) (hwr : me_wf NR R) (hcl : me_cN N ≤ me_CL ∧ me_sN N ≤ me_SL) (h00 : 0 < N 0) (h10 : 0 < NR 1) (hjo : jo < N 16) (hP : va_P D classes (me_W ad ca M ++ me_W bd ca R) H) (hD : va_D A (me_W ad ca M ++ me_W bd ca R)) (hS : va_S A s.heap H locs) (hl : lv_has ls 8 [(4, .int (nI i)), (3, .ref (ad 16 jo)), (2, .ref (bd 1 0)), (1, .ref (ad 0 0)), (0, .ref b)]) (hfit : cells + (me_CL - me_cN N) + 8 ≤ 601024 ∧ slots + (me_SL - me_sN N) + 48 ≤ 7293034) (e1 : fT3_G_packetAt M 0 (xs (i + 1)) = some M1) (e2 : f_M_packetAt R 0 (xs (i + 1)) = some (R2, rb)) (e3 : f_M_thrown R2 0 = some (R1, 1)) (kk : ∀ (ad1 : Nat → Nat → Nat) (N1 : Nat → Nat) (H1 : Heap) (locs1 : List Loc) (ls1 : Array Slot) (cells1 slots1 : Nat), (∀ a, N a ≤ N1 a) → me_wf N1 M1 → me_wf NR R1 → (me_cN N1 ≤ me_CL ∧ me_sN N1 ≤ me_SL) → va_P D classes (me_W ad1 ca M1 ++ me_W bd ca R1) H1 → va_D A (me_W ad1 ca M1 ++ me_W bd ca R1) → va_S A s.heap H1 locs1 → lv_has ls1 8 [(4, .int (nI i)), (3, .ref (ad1 16 jo)), (2, .ref (bd 1 0)), (1, .ref (ad1 0 0)), (0, .ref b)] → cells1 + me_cN N ≤ cells + me_cN N1 + 1 → slots1 + me_sN N ≤ slots + me_sN N1 + 6 → W p l e room_1 s m #[Value.ref b] below meth c H1 locs1 cells1 slots1 Q (F0 m 1029 ls1 [])) : W p l e room_1 s m #[Value.ref b] below meth c H locs cells slots Q (F0 m 758 ls []) := by
  refine lv_aload_n hx hb d_Law_law_758 rfl (lv_at hl 3 rfl) ?_
  refine lv_aload_n hx hb d_Law_law_759 rfl (lv_at hl 4 rfl) ?_
  refine lv_iload hx hb d_Law_law_760 (lv_at hl 0 rfl) ?_
  refine lv_iconst (v := 1) hx hb d_Law_law_762 (by decide) ?_
  refine lv_iadd hx hb d_Law_law_763 ?_
  refine fg_topi (y := nI (i + 1)) (nI_add i 1) ?_
  refine va_sld hx hb hXs hbl hbA hS (nI_in (c := i + 1) (N := L) (by omega) (by omega)) d_Law_law_764 ?_
  refine fg_topi (y := xs (i + 1)) (by rw [nI_clamp (by omega)]) ?_
  refine lv_aload_n hx hb d_Law_law_765 rfl (lv_at hl 1 rfl) ?_
  refine lw_Mi (r0 := 1) (M1 := M1) (al_runSH (As := [.ref (ad 0 0), .int (xs (i + 1)), .ref (ad 16 jo)]) (rest := []) ⟨hx, hb, hml, hown, hts⟩ (cH3_Law_packetAt l hl9 D ad ca N M M1 0 (xs (i + 1)) jo e1 hwf h00 hjo _) (by show fg_nm y_Law_packetAt 3; decide +kernel) u_1555 u_1556 u_180 u_1557 ⟨Nat.le_of_ble_eq_true rfl, Nat.le_of_ble_eq_true rfl⟩ hX (fk_Pl hP) hK (fk_Dl hD) hz hy hS hA rfl hl.1 (Nat.le_of_ble_eq_true rfl) d_Law_law_766 (by exact lw_f1 hfit)) hP hD hK hS hA (fun H locs hw hP hD hS => ?_)
  obtain ⟨cells0, hc0⟩ : ∃ z, z = cells := ⟨_, rfl⟩
  obtain ⟨slots0, hs0⟩ : ∃ z, z = slots := ⟨_, rfl⟩
  refine W.widen (k := cells + 1) (n := slots + 6) (Nat.le_refl _) (Nat.le_refl _) ?_
  have hwf := hw
  have hfit := lw_ft hfit
  generalize hce : cells + 1 = cells1 at hfit ⊢
  generalize hse : slots + 6 = slots1 at hfit ⊢
  refine lv_istore (lv' := [(5, .int 1), (4, .int (nI i)), (3, .ref (ad 16 jo)), (2, .ref (bd 1 0)), (1, .ref (ad 0 0)), (0, .ref b)]) hx hb d_Law_law_769 hl (by decide) rfl (fun ls hl => ?_)
  refine lv_aload_n hx hb d_Law_law_771 rfl (lv_at hl 3 rfl) ?_
  refine lv_aload_n hx hb d_Law_law_772 rfl (lv_at hl 5 rfl) ?_
  refine lv_iload hx hb d_Law_law_773 (lv_at hl 1 rfl) ?_
  refine lv_iconst (v := 1) hx hb d_Law_law_775 (by decide) ?_
  refine lv_iadd hx hb d_Law_law_776 ?_
  refine fg_topi (y := nI (i + 1)) (nI_add i 1) ?_
  refine va_sld hx hb hXs hbl hbA hS (nI_in (c := i + 1) (N := L) (by omega) (by omega)) d_Law_law_777 ?_
  refine fg_topi (y := xs (i + 1)) (by rw [nI_clamp (by omega)]) ?_
  refine lw_Ri (r0 := rb) (R1 := R2) (me_runV (C := "FilterGuardModel") (As := [.int (xs (i + 1))]) (rest := []) ⟨hx, hb, hml, hown, hts⟩ (c_M_packetAt l D bd ca NR R R2 rb 0 (xs (i + 1)) e2 hwr h10 _) rfl (by show fg_nm y_M_packetAt 1; decide +kernel) u_2451 u_2452 u_2453 u_192 u_2454 ⟨Nat.le_of_ble_eq_true rfl, Nat.le_of_ble_eq_true rfl⟩ hX hz.2 hK (fk_Pr hP) (fk_Dr hD) hwr hS hA h10 (by decide) rfl rfl rfl hl.1 (Nat.le_of_ble_eq_true rfl) d_Law_law_778 (by exact lw_f2 hfit)) hP hD hK hS hA (fun H locs hw hP hD hS => ?_)
  refine W.widen (k := cells1) (n := slots1) (Nat.le_refl _) (Nat.le_refl _) ?_
  have hwr := hw.1
  refine lv_istore (lv' := [(6, .int rb), (5, .int 1), (4, .int (nI i)), (3, .ref (ad 16 jo)), (2, .ref (bd 1 0)), (1, .ref (ad 0 0)), (0, .ref b)]) hx hb d_Law_law_781 hl (by decide) rfl (fun ls hl => ?_)
  refine lv_aload_n hx hb d_Law_law_783 rfl (lv_at hl 4 rfl) ?_
  refine lw_Ri (r0 := 1) (R1 := R1) (me_runV (C := "FilterGuardModel") (As := []) (rest := []) ⟨hx, hb, hml, hown, hts⟩ (c_M_thrown l D bd ca NR R2 R1 (1 : Int32) 0 e3 hwr h10 _) rfl (by show fg_nm y_M_thrown 0; decide +kernel) u_1967 u_1968 u_1969 u_192 u_1970 ⟨Nat.le_of_ble_eq_true rfl, Nat.le_of_ble_eq_true rfl⟩ hX hz.2 hK (fk_Pr hP) (fk_Dr hD) hwr hS hA h10 (by decide) rfl rfl rfl hl.1 (Nat.le_of_ble_eq_true rfl) d_Law_law_784 (by exact lw_f2 hfit)) hP hD hK hS hA (fun H locs hw hP hD hS => ?_)
  refine W.widen (k := cells1) (n := slots1) (Nat.le_refl _) (Nat.le_refl _) ?_
  have hwr := hw.1
  refine lv_iload hx hb d_Law_law_787 (lv_at hl 1 rfl) ?_
  refine lv_icmp_eq (tgt := 794) hx hb d_Law_law_789 (by decide) (fun c9 => ?_) (fun c9 => absurd (by decide) c9)
  refine lv_iload hx hb d_Law_law_794 (lv_at hl 1 rfl) ?_
  refine lv_if_ne (tgt := 811) hx hb d_Law_law_796 (by decide) (fun c9 => ?_) (fun c9 => absurd c9 (by decide))
  refine lv_goto (tgt := 1029) hx hb d_Law_law_811 (by decide) ?_
  exact kk ad N _ _ _ _ _ (fun _ => Nat.le_refl _) hwf hwr hcl hP hD hS (lv_sub hl [2, 3, 4, 5, 6] rfl) (by omega) (by omega)
