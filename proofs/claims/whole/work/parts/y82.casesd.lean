theorem d_Law_law_814 : decode code 814 = .ok (.aload_n 1, 1) := by decide +kernel
theorem d_Law_law_815 : decode code 815 = .ok (.aload_n 0, 1) := by decide +kernel
theorem d_Law_law_816 : decode code 816 = .ok (.iload 4, 2) := by decide +kernel
theorem d_Law_law_818 : decode code 818 = .ok (.iconst 1, 1) := by decide +kernel
theorem d_Law_law_819 : decode code 819 = .ok (.iadd, 1) := by decide +kernel
theorem d_Law_law_820 : decode code 820 = .ok (.iaload, 1) := by decide +kernel
theorem d_Law_law_821 : decode code 821 = .ok (.i2l, 1) := by decide +kernel
theorem d_Law_law_822 : decode code 822 = .ok (.bipush 32, 2) := by decide +kernel
theorem d_Law_law_824 : decode code 824 = .ok (.lshl, 1) := by decide +kernel
theorem d_Law_law_825 : decode code 825 = .ok (.aload_n 0, 1) := by decide +kernel
theorem d_Law_law_826 : decode code 826 = .ok (.iload 4, 2) := by decide +kernel
theorem d_Law_law_828 : decode code 828 = .ok (.iconst 2, 1) := by decide +kernel
theorem d_Law_law_829 : decode code 829 = .ok (.iadd, 1) := by decide +kernel
theorem d_Law_law_830 : decode code 830 = .ok (.iaload, 1) := by decide +kernel
theorem d_Law_law_831 : decode code 831 = .ok (.i2l, 1) := by decide +kernel
theorem d_Law_law_832 : decode code 832 = .ok (.ldc2_w 88, 3) := by decide +kernel
theorem d_Law_law_835 : decode code 835 = .ok (.land, 1) := by decide +kernel
theorem d_Law_law_836 : decode code 836 = .ok (.lor, 1) := by decide +kernel
theorem d_Law_law_837 : decode code 837 = .ok (.invokevirtual 106, 3) := by decide +kernel
theorem u_787 : Cond.methodLink "FilterGuardLaw" 106 ⟨"FilterGuard", "clock", "(J)V"⟩ ∈ fg_g := fg_in (List.mem_of_getElem? (i := 787) (by decide +kernel)) rfl
theorem u_790 : Cond.code ⟨"FilterGuard", "clock", "(J)V"⟩ prog_1_method_14_code 3 none ∈ fg_g := fg_in (List.mem_of_getElem? (i := 790) (by decide +kernel)) rfl
theorem u_788 : Cond.instanceMethod ⟨"FilterGuard", "clock", "(J)V"⟩ ∈ fg_g := fg_in (List.mem_of_getElem? (i := 788) (by decide +kernel)) rfl
theorem u_789 : Cond.selects "FilterGuard" ⟨"FilterGuard", "clock", "(J)V"⟩ ⟨"FilterGuard", "clock", "(J)V"⟩ ∈ fg_g := fg_in (List.mem_of_getElem? (i := 789) (by decide +kernel)) rfl
theorem d_Law_law_840 : decode code 840 = .ok (.aload_n 2, 1) := by decide +kernel
theorem d_Law_law_841 : decode code 841 = .ok (.aload_n 0, 1) := by decide +kernel
theorem d_Law_law_842 : decode code 842 = .ok (.iload 4, 2) := by decide +kernel
theorem d_Law_law_844 : decode code 844 = .ok (.iconst 1, 1) := by decide +kernel
theorem d_Law_law_845 : decode code 845 = .ok (.iadd, 1) := by decide +kernel
theorem d_Law_law_846 : decode code 846 = .ok (.iaload, 1) := by decide +kernel
theorem d_Law_law_847 : decode code 847 = .ok (.i2l, 1) := by decide +kernel
theorem d_Law_law_848 : decode code 848 = .ok (.bipush 32, 2) := by decide +kernel
theorem d_Law_law_850 : decode code 850 = .ok (.lshl, 1) := by decide +kernel
theorem d_Law_law_851 : decode code 851 = .ok (.aload_n 0, 1) := by decide +kernel
theorem d_Law_law_852 : decode code 852 = .ok (.iload 4, 2) := by decide +kernel
theorem d_Law_law_854 : decode code 854 = .ok (.iconst 2, 1) := by decide +kernel
theorem d_Law_law_855 : decode code 855 = .ok (.iadd, 1) := by decide +kernel
theorem d_Law_law_856 : decode code 856 = .ok (.iaload, 1) := by decide +kernel
theorem d_Law_law_857 : decode code 857 = .ok (.i2l, 1) := by decide +kernel
theorem d_Law_law_858 : decode code 858 = .ok (.ldc2_w 88, 3) := by decide +kernel
theorem d_Law_law_861 : decode code 861 = .ok (.land, 1) := by decide +kernel
theorem d_Law_law_862 : decode code 862 = .ok (.lor, 1) := by decide +kernel
theorem d_Law_law_863 : decode code 863 = .ok (.invokevirtual 110, 3) := by decide +kernel
theorem u_2455 : Cond.methodLink "FilterGuardLaw" 110 ⟨"FilterGuardModel", "clock", "(J)V"⟩ ∈ fg_g := fg_in (List.mem_of_getElem? (i := 2455) (by decide +kernel)) rfl
theorem u_2458 : Cond.code ⟨"FilterGuardModel", "clock", "(J)V"⟩ prog_14_method_125_code 3 none ∈ fg_g := fg_in (List.mem_of_getElem? (i := 2458) (by decide +kernel)) rfl
theorem u_2456 : Cond.instanceMethod ⟨"FilterGuardModel", "clock", "(J)V"⟩ ∈ fg_g := fg_in (List.mem_of_getElem? (i := 2456) (by decide +kernel)) rfl
theorem u_2457 : Cond.selects "FilterGuardModel" ⟨"FilterGuardModel", "clock", "(J)V"⟩ ⟨"FilterGuardModel", "clock", "(J)V"⟩ ∈ fg_g := fg_in (List.mem_of_getElem? (i := 2457) (by decide +kernel)) rfl
theorem d_Law_law_866 : decode code 866 = .ok (.goto 163, 3) := by decide +kernel
set_option maxHeartbeats 4000000 in
set_option maxRecDepth 100000 in
theorem law_11 {p : Program} {l : Launch} {e : Env} {s : Jvm.State} {m : MethodId} {below : List Frame} {meth : Method} {c : Code} {b L i : Nat} {xs : Nat → Int32} {A : Nat → Prop} {D : va_G} {ca : Nat → ClassId} {ad bd : Nat → Nat → Nat} {N NR : Nat → Nat} {M M1 R R1 : me_M} {jo : Nat} {H : Heap} {locs : List Loc} {ls : Array Slot} {cells slots : Nat} {Q : Jvm.State → Prop}  (hl9 : l.stackTraces = false) (hx : p.tables.exec = Jvm.exec) (hb : c.code = code) (hml : c.maxLocals = 8) (hown : s.vm.findClass "FilterGuardLaw" = some m.cls) (hts : ∀ w ∈ fg_g, w.before #[Value.ref b] s = true) (hX : fg_X s) (hz : fg_Z A s s.heap) (hy : fg_Y s) (hXs : va_X b L xs s s.heap) (hbl : b < s.heap.size) (hbA : ¬ A b) (hA : ∀ q : Nat, s.heap.size ≤ q → A q) (hK : va_K D classes (me_T ca) s) (hL : L ≤ 3072) (hi : i + 6 ≤ L) (hwf : me_wf N M) (hwr : me_wf NR R) (hcl : me_cN N ≤ me_CL ∧ me_sN N ≤ me_SL) (h00 : 0 < N 0) (h10 : 0 < NR 1) (hjo : jo < N 16) (hP : va_P D classes (me_W ad ca M ++ me_W bd ca R) H) (hD : va_D A (me_W ad ca M ++ me_W bd ca R)) (hS : va_S A s.heap H locs) (hl : lv_has ls 8 [(4, .int (nI i)), (3, .ref (ad 16 jo)), (2, .ref (bd 1 0)), (1, .ref (ad 0 0)), (0, .ref b)]) (hfit : cells + (me_CL - me_cN N) + 8 ≤ 601024 ∧ slots + (me_SL - me_sN N) + 48 ≤ 7293034) (e1 : f_G_clock M 0 ((jlshl ((xs (i + 1)).toInt64) (32 : Int32)) ||| (((xs (i + 2)).toInt64) &&& 4294967295)) = some M1) (e2 : f_M_clock R 0 ((jlshl ((xs (i + 1)).toInt64) (32 : Int32)) ||| (((xs (i + 2)).toInt64) &&& 4294967295)) = some R1) (kk : ∀ (ad1 : Nat → Nat → Nat) (N1 : Nat → Nat) (H1 : Heap) (locs1 : List Loc) (ls1 : Array Slot) (cells1 slots1 : Nat), (∀ a, N a ≤ N1 a) → me_wf N1 M1 → me_wf NR R1 → (me_cN N1 ≤ me_CL ∧ me_sN N1 ≤ me_SL) → va_P D classes (me_W ad1 ca M1 ++ me_W bd ca R1) H1 → va_D A (me_W ad1 ca M1 ++ me_W bd ca R1) → va_S A s.heap H1 locs1 → lv_has ls1 8 [(4, .int (nI i)), (3, .ref (ad1 16 jo)), (2, .ref (bd 1 0)), (1, .ref (ad1 0 0)), (0, .ref b)] → cells1 + me_cN N ≤ cells + me_cN N1 + 1 → slots1 + me_sN N ≤ slots + me_sN N1 + 6 → W p l e room_1 s m #[Value.ref b] below meth c H1 locs1 cells1 slots1 Q (F0 m 1029 ls1 [])) : W p l e room_1 s m #[Value.ref b] below meth c H locs cells slots Q (F0 m 814 ls []) := by
  refine lv_aload_n hx hb d_Law_law_814 rfl (lv_at hl 3 rfl) ?_
  refine lv_aload_n hx hb d_Law_law_815 rfl (lv_at hl 4 rfl) ?_
  refine lv_iload hx hb d_Law_law_816 (lv_at hl 0 rfl) ?_
  refine lv_iconst (v := 1) hx hb d_Law_law_818 (by decide) ?_
  refine lv_iadd hx hb d_Law_law_819 ?_
  refine fg_topi (y := nI (i + 1)) (nI_add i 1) ?_
  refine va_sld hx hb hXs hbl hbA hS (nI_in (c := i + 1) (N := L) (by omega) (by omega)) d_Law_law_820 ?_
  refine fg_topi (y := xs (i + 1)) (by rw [nI_clamp (by omega)]) ?_
  refine lv_i2l (v := (xs (i + 1)).toInt64) hx hb d_Law_law_821 rfl ?_
  refine lv_bipush (v := 32) hx hb d_Law_law_822 (by decide) ?_
  refine lv_lshl (v := jlshl ((xs (i + 1)).toInt64) (32 : Int32)) hx hb d_Law_law_824 rfl ?_
  refine lv_aload_n hx hb d_Law_law_825 rfl (lv_at hl 4 rfl) ?_
  refine lv_iload hx hb d_Law_law_826 (lv_at hl 0 rfl) ?_
  refine lv_iconst (v := 2) hx hb d_Law_law_828 (by decide) ?_
  refine lv_iadd hx hb d_Law_law_829 ?_
  refine fg_topi (y := nI (i + 2)) (nI_add i 2) ?_
  refine va_sld hx hb hXs hbl hbA hS (nI_in (c := i + 2) (N := L) (by omega) (by omega)) d_Law_law_830 ?_
  refine fg_topi (y := xs (i + 2)) (by rw [nI_clamp (by omega)]) ?_
  refine lv_i2l (v := (xs (i + 2)).toInt64) hx hb d_Law_law_831 rfl ?_
  refine lv_ldc2 hx hb hown (hts _ u_2527) d_Law_law_832 ?_
  refine lv_land hx hb d_Law_law_835 ?_
  refine lv_lor hx hb d_Law_law_836 ?_
  refine lw_Mv (M1 := M1) (me_runV (C := "FilterGuard") (As := [.long ((jlshl ((xs (i + 1)).toInt64) (32 : Int32)) ||| (((xs (i + 2)).toInt64) &&& 4294967295))]) (rest := []) ⟨hx, hb, hml, hown, hts⟩ (c_G_clock l D ad ca N M M1 0 ((jlshl ((xs (i + 1)).toInt64) (32 : Int32)) ||| (((xs (i + 2)).toInt64) &&& 4294967295)) e1 hwf h00 _) rfl (by show fg_nm y_G_clock 1; decide +kernel) u_787 u_788 u_789 u_181 u_790 ⟨Nat.le_of_ble_eq_true rfl, Nat.le_of_ble_eq_true rfl⟩ hX hz.2 hK (fk_Pl hP) (fk_Dl hD) hwf hS hA h00 (by decide) rfl rfl rfl hl.1 (Nat.le_of_ble_eq_true rfl) d_Law_law_837 (by exact lw_f0 hfit)) hP hD hK hS hA (fun H locs hw hP hD hS => ?_)
  refine W.widen (k := cells) (n := slots) (Nat.le_refl _) (Nat.le_refl _) ?_
  have hwf := hw.1
  refine lv_aload_n hx hb d_Law_law_840 rfl (lv_at hl 2 rfl) ?_
  refine lv_aload_n hx hb d_Law_law_841 rfl (lv_at hl 4 rfl) ?_
  refine lv_iload hx hb d_Law_law_842 (lv_at hl 0 rfl) ?_
  refine lv_iconst (v := 1) hx hb d_Law_law_844 (by decide) ?_
  refine lv_iadd hx hb d_Law_law_845 ?_
  refine fg_topi (y := nI (i + 1)) (nI_add i 1) ?_
  refine va_sld hx hb hXs hbl hbA hS (nI_in (c := i + 1) (N := L) (by omega) (by omega)) d_Law_law_846 ?_
  refine fg_topi (y := xs (i + 1)) (by rw [nI_clamp (by omega)]) ?_
  refine lv_i2l (v := (xs (i + 1)).toInt64) hx hb d_Law_law_847 rfl ?_
  refine lv_bipush (v := 32) hx hb d_Law_law_848 (by decide) ?_
  refine lv_lshl (v := jlshl ((xs (i + 1)).toInt64) (32 : Int32)) hx hb d_Law_law_850 rfl ?_
  refine lv_aload_n hx hb d_Law_law_851 rfl (lv_at hl 4 rfl) ?_
  refine lv_iload hx hb d_Law_law_852 (lv_at hl 0 rfl) ?_
  refine lv_iconst (v := 2) hx hb d_Law_law_854 (by decide) ?_
  refine lv_iadd hx hb d_Law_law_855 ?_
  refine fg_topi (y := nI (i + 2)) (nI_add i 2) ?_
  refine va_sld hx hb hXs hbl hbA hS (nI_in (c := i + 2) (N := L) (by omega) (by omega)) d_Law_law_856 ?_
  refine fg_topi (y := xs (i + 2)) (by rw [nI_clamp (by omega)]) ?_
  refine lv_i2l (v := (xs (i + 2)).toInt64) hx hb d_Law_law_857 rfl ?_
  refine lv_ldc2 hx hb hown (hts _ u_2527) d_Law_law_858 ?_
  refine lv_land hx hb d_Law_law_861 ?_
  refine lv_lor hx hb d_Law_law_862 ?_
  refine lw_Rv (R1 := R1) (me_runV (C := "FilterGuardModel") (As := [.long ((jlshl ((xs (i + 1)).toInt64) (32 : Int32)) ||| (((xs (i + 2)).toInt64) &&& 4294967295))]) (rest := []) ⟨hx, hb, hml, hown, hts⟩ (c_M_clock l D bd ca NR R R1 0 ((jlshl ((xs (i + 1)).toInt64) (32 : Int32)) ||| (((xs (i + 2)).toInt64) &&& 4294967295)) e2 hwr h10 _) rfl (by show fg_nm y_M_clock 1; decide +kernel) u_2455 u_2456 u_2457 u_192 u_2458 ⟨Nat.le_of_ble_eq_true rfl, Nat.le_of_ble_eq_true rfl⟩ hX hz.2 hK (fk_Pr hP) (fk_Dr hD) hwr hS hA h10 (by decide) rfl rfl rfl hl.1 (Nat.le_of_ble_eq_true rfl) d_Law_law_863 (by exact lw_f0 hfit)) hP hD hK hS hA (fun H locs hw hP hD hS => ?_)
  refine W.widen (k := cells) (n := slots) (Nat.le_refl _) (Nat.le_refl _) ?_
  have hwr := hw.1
  refine lv_goto (tgt := 1029) hx hb d_Law_law_866 (by decide) ?_
  exact kk ad N _ _ _ _ _ (fun _ => Nat.le_refl _) hwf hwr hcl hP hD hS (lv_sub hl [0, 1, 2, 3, 4] rfl) (by omega) (by omega)
theorem d_Law_law_869 : decode code 869 = .ok (.aload_n 1, 1) := by decide +kernel
theorem d_Law_law_870 : decode code 870 = .ok (.aload_n 0, 1) := by decide +kernel
theorem d_Law_law_871 : decode code 871 = .ok (.iload 4, 2) := by decide +kernel
theorem d_Law_law_873 : decode code 873 = .ok (.iconst 1, 1) := by decide +kernel
theorem d_Law_law_874 : decode code 874 = .ok (.iadd, 1) := by decide +kernel
theorem d_Law_law_875 : decode code 875 = .ok (.iaload, 1) := by decide +kernel
theorem d_Law_law_876 : decode code 876 = .ok (.aload_n 3, 1) := by decide +kernel
theorem d_Law_law_877 : decode code 877 = .ok (.invokestatic 111, 3) := by decide +kernel
theorem u_1563 : Cond.methodLink "FilterGuardLaw" 111 ⟨"FilterGuardLaw", "run", "(LFilterGuard;I[J)I"⟩ ∈ fg_g := fg_in (List.mem_of_getElem? (i := 1563) (by decide +kernel)) rfl
theorem u_1565 : Cond.codeWith ⟨"FilterGuardLaw", "run", "(LFilterGuard;I[J)I"⟩ method_10_code 4 (some .int) [(0, 8, 11, 13), (0, 8, 14, 15)] ∈ fg_g := fg_in (List.mem_of_getElem? (i := 1565) (by decide +kernel)) rfl
theorem u_1564 : Cond.static ⟨"FilterGuardLaw", "run", "(LFilterGuard;I[J)I"⟩ ∈ fg_g := fg_in (List.mem_of_getElem? (i := 1564) (by decide +kernel)) rfl
theorem d_Law_law_880 : decode code 880 = .ok (.istore 5, 2) := by decide +kernel
theorem d_Law_law_882 : decode code 882 = .ok (.aload_n 2, 1) := by decide +kernel
theorem d_Law_law_883 : decode code 883 = .ok (.aload_n 0, 1) := by decide +kernel
theorem d_Law_law_884 : decode code 884 = .ok (.iload 4, 2) := by decide +kernel
theorem d_Law_law_886 : decode code 886 = .ok (.iconst 1, 1) := by decide +kernel
theorem d_Law_law_887 : decode code 887 = .ok (.iadd, 1) := by decide +kernel
theorem d_Law_law_888 : decode code 888 = .ok (.iaload, 1) := by decide +kernel
theorem d_Law_law_889 : decode code 889 = .ok (.invokevirtual 113, 3) := by decide +kernel
theorem u_2459 : Cond.methodLink "FilterGuardLaw" 113 ⟨"FilterGuardModel", "run", "(I)J"⟩ ∈ fg_g := fg_in (List.mem_of_getElem? (i := 2459) (by decide +kernel)) rfl
theorem u_2462 : Cond.code ⟨"FilterGuardModel", "run", "(I)J"⟩ prog_14_method_137_code 5 (some .long) ∈ fg_g := fg_in (List.mem_of_getElem? (i := 2462) (by decide +kernel)) rfl
theorem u_2460 : Cond.instanceMethod ⟨"FilterGuardModel", "run", "(I)J"⟩ ∈ fg_g := fg_in (List.mem_of_getElem? (i := 2460) (by decide +kernel)) rfl
theorem u_2461 : Cond.selects "FilterGuardModel" ⟨"FilterGuardModel", "run", "(I)J"⟩ ⟨"FilterGuardModel", "run", "(I)J"⟩ ∈ fg_g := fg_in (List.mem_of_getElem? (i := 2461) (by decide +kernel)) rfl
theorem d_Law_law_892 : decode code 892 = .ok (.lstore 6, 2) := by decide +kernel
theorem d_Law_law_894 : decode code 894 = .ok (.aload_n 2, 1) := by decide +kernel
theorem d_Law_law_895 : decode code 895 = .ok (.invokevirtual 64, 3) := by decide +kernel
theorem d_Law_law_898 : decode code 898 = .ok (.iload 5, 2) := by decide +kernel
theorem d_Law_law_900 : decode code 900 = .ok (.if_icmp .eq 5, 3) := by decide +kernel
theorem d_Law_law_905 : decode code 905 = .ok (.iload 5, 2) := by decide +kernel
theorem d_Law_law_907 : decode code 907 = .ok (.ifCond .ne 14, 3) := by decide +kernel
theorem d_Law_law_910 : decode code 910 = .ok (.aload_n 3, 1) := by decide +kernel
theorem d_Law_law_911 : decode code 911 = .ok (.iconst 0, 1) := by decide +kernel
theorem d_Law_law_912 : decode code 912 = .ok (.laload, 1) := by decide +kernel
theorem d_Law_law_913 : decode code 913 = .ok (.lload 6, 2) := by decide +kernel
theorem d_Law_law_915 : decode code 915 = .ok (.lcmp, 1) := by decide +kernel
theorem d_Law_law_916 : decode code 916 = .ok (.ifCond .eq 5, 3) := by decide +kernel
theorem d_Law_law_921 : decode code 921 = .ok (.goto 108, 3) := by decide +kernel
set_option maxHeartbeats 4000000 in
set_option maxRecDepth 100000 in
theorem law_12_0 {p : Program} {l : Launch} {e : Env} {s : Jvm.State} {m : MethodId} {below : List Frame} {meth : Method} {c : Code} {b L i : Nat} {xs : Nat → Int32} {A : Nat → Prop} {D : va_G} {ca : Nat → ClassId} {ad bd : Nat → Nat → Nat} {N NR : Nat → Nat} {M M1 R R1 : me_M} {jo : Nat} {H : Heap} {locs : List Loc} {ls : Array Slot} {cells slots : Nat} {Q : Jvm.State → Prop} {R2 : me_M} {rb : Int64} (hout : 0 < mZ M1 16 jo) (hl9 : l.stackTraces = false) (hx : p.tables.exec = Jvm.exec) (hb : c.code = code) (hml : c.maxLocals = 8) (hown : s.vm.findClass "FilterGuardLaw" = some m.cls) (hts : ∀ w ∈ fg_g, w.before #[Value.ref b] s = true) (hX : fg_X s) (hz : fg_Z A s s.heap) (hy : fg_Y s) (hXs : va_X b L xs s s.heap) (hbl : b < s.heap.size) (hbA : ¬ A b) (hA : ∀ q : Nat, s.heap.size ≤ q → A q) (hK : va_K D classes (me_T ca) s) (hL : L ≤ 3072) (hi : i + 6 ≤ L) (hwf : me_wf N M) (hwr : me_wf NR R) (hcl : me_cN N ≤ me_CL ∧ me_sN N ≤ me_SL) (h00 : 0 < N 0) (h10 : 0 < NR 1) (hjo : jo < N 16) (hP : va_P D classes (me_W ad ca M ++ me_W bd ca R) H) (hD : va_D A (me_W ad ca M ++ me_W bd ca R)) (hS : va_S A s.heap H locs) (hl : lv_has ls 8 [(4, .int (nI i)), (3, .ref (ad 16 jo)), (2, .ref (bd 1 0)), (1, .ref (ad 0 0)), (0, .ref b)]) (hfit : cells + (me_CL - me_cN N) + 8 ≤ 601024 ∧ slots + (me_SL - me_sN N) + 48 ≤ 7293034) (e1 : f_Law_run M 0 (xs (i + 1)) jo = some (M1, 0)) (e2 : f_M_run R 0 (xs (i + 1)) = some (R2, rb)) (e3 : f_M_thrown R2 0 = some (R1, 0)) (hob : mL M1 16 jo 0 = rb) (kk : ∀ (ad1 : Nat → Nat → Nat) (N1 : Nat → Nat) (H1 : Heap) (locs1 : List Loc) (ls1 : Array Slot) (cells1 slots1 : Nat), (∀ a, N a ≤ N1 a) → me_wf N1 M1 → me_wf NR R1 → (me_cN N1 ≤ me_CL ∧ me_sN N1 ≤ me_SL) → va_P D classes (me_W ad1 ca M1 ++ me_W bd ca R1) H1 → va_D A (me_W ad1 ca M1 ++ me_W bd ca R1) → va_S A s.heap H1 locs1 → lv_has ls1 8 [(4, .int (nI i)), (3, .ref (ad1 16 jo)), (2, .ref (bd 1 0)), (1, .ref (ad1 0 0)), (0, .ref b)] → cells1 + me_cN N ≤ cells + me_cN N1 + 1 → slots1 + me_sN N ≤ slots + me_sN N1 + 6 → W p l e room_1 s m #[Value.ref b] below meth c H1 locs1 cells1 slots1 Q (F0 m 1029 ls1 [])) : W p l e room_1 s m #[Value.ref b] below meth c H locs cells slots Q (F0 m 869 ls []) := by
  refine lv_aload_n hx hb d_Law_law_869 rfl (lv_at hl 3 rfl) ?_
  refine lv_aload_n hx hb d_Law_law_870 rfl (lv_at hl 4 rfl) ?_
  refine lv_iload hx hb d_Law_law_871 (lv_at hl 0 rfl) ?_
  refine lv_iconst (v := 1) hx hb d_Law_law_873 (by decide) ?_
  refine lv_iadd hx hb d_Law_law_874 ?_
  refine fg_topi (y := nI (i + 1)) (nI_add i 1) ?_
  refine va_sld hx hb hXs hbl hbA hS (nI_in (c := i + 1) (N := L) (by omega) (by omega)) d_Law_law_875 ?_
  refine fg_topi (y := xs (i + 1)) (by rw [nI_clamp (by omega)]) ?_
  refine lv_aload_n hx hb d_Law_law_876 rfl (lv_at hl 1 rfl) ?_
  refine lw_Mi (r0 := 0) (M1 := M1) (al_runSH (As := [.ref (ad 0 0), .int (xs (i + 1)), .ref (ad 16 jo)]) (rest := []) ⟨hx, hb, hml, hown, hts⟩ (c_Law_run l D ad ca N M M1 0 0 (xs (i + 1)) jo e1 hwf h00 hjo _) (by show fg_nm y_Law_run 3; decide +kernel) u_1563 u_1564 u_180 u_1565 ⟨Nat.le_of_ble_eq_true rfl, Nat.le_of_ble_eq_true rfl⟩ hX (fk_Pl hP) hK (fk_Dl hD) hz hy hS hA rfl hl.1 (Nat.le_of_ble_eq_true rfl) d_Law_law_877 (by exact lw_f0 hfit)) hP hD hK hS hA (fun H locs hw hP hD hS => ?_)
  refine W.widen (k := cells) (n := slots) (Nat.le_refl _) (Nat.le_refl _) ?_
  have hwf := hw.1
  refine lv_istore (lv' := [(5, .int 0), (4, .int (nI i)), (3, .ref (ad 16 jo)), (2, .ref (bd 1 0)), (1, .ref (ad 0 0)), (0, .ref b)]) hx hb d_Law_law_880 hl (by decide) rfl (fun ls hl => ?_)
  refine lv_aload_n hx hb d_Law_law_882 rfl (lv_at hl 3 rfl) ?_
  refine lv_aload_n hx hb d_Law_law_883 rfl (lv_at hl 5 rfl) ?_
  refine lv_iload hx hb d_Law_law_884 (lv_at hl 1 rfl) ?_
  refine lv_iconst (v := 1) hx hb d_Law_law_886 (by decide) ?_
  refine lv_iadd hx hb d_Law_law_887 ?_
  refine fg_topi (y := nI (i + 1)) (nI_add i 1) ?_
  refine va_sld hx hb hXs hbl hbA hS (nI_in (c := i + 1) (N := L) (by omega) (by omega)) d_Law_law_888 ?_
  refine fg_topi (y := xs (i + 1)) (by rw [nI_clamp (by omega)]) ?_
  refine lw_Rl (r0 := rb) (R1 := R2) (me_runV (C := "FilterGuardModel") (As := [.int (xs (i + 1))]) (rest := []) ⟨hx, hb, hml, hown, hts⟩ (c_M_run l D bd ca NR R R2 rb 0 (xs (i + 1)) e2 hwr h10 _) rfl (by show fg_nm y_M_run 1; decide +kernel) u_2459 u_2460 u_2461 u_192 u_2462 ⟨Nat.le_of_ble_eq_true rfl, Nat.le_of_ble_eq_true rfl⟩ hX hz.2 hK (fk_Pr hP) (fk_Dr hD) hwr hS hA h10 (by decide) rfl rfl rfl hl.1 (Nat.le_of_ble_eq_true rfl) d_Law_law_889 (by exact lw_f0 hfit)) hP hD hK hS hA (fun H locs hw hP hD hS => ?_)
  refine W.widen (k := cells) (n := slots) (Nat.le_refl _) (Nat.le_refl _) ?_
  have hwr := hw.1
  refine lv_lstore (lv' := [(6, .long rb), (5, .int 0), (4, .int (nI i)), (3, .ref (ad 16 jo)), (2, .ref (bd 1 0)), (1, .ref (ad 0 0)), (0, .ref b)]) hx hb d_Law_law_892 hl (by decide) rfl (fun ls hl => ?_)
  refine lv_aload_n hx hb d_Law_law_894 rfl (lv_at hl 4 rfl) ?_
  refine lw_Ri (r0 := 0) (R1 := R1) (me_runV (C := "FilterGuardModel") (As := []) (rest := []) ⟨hx, hb, hml, hown, hts⟩ (c_M_thrown l D bd ca NR R2 R1 (0 : Int32) 0 e3 hwr h10 _) rfl (by show fg_nm y_M_thrown 0; decide +kernel) u_1967 u_1968 u_1969 u_192 u_1970 ⟨Nat.le_of_ble_eq_true rfl, Nat.le_of_ble_eq_true rfl⟩ hX hz.2 hK (fk_Pr hP) (fk_Dr hD) hwr hS hA h10 (by decide) rfl rfl rfl hl.1 (Nat.le_of_ble_eq_true rfl) d_Law_law_895 (by exact lw_f0 hfit)) hP hD hK hS hA (fun H locs hw hP hD hS => ?_)
  refine W.widen (k := cells) (n := slots) (Nat.le_refl _) (Nat.le_refl _) ?_
  have hwr := hw.1
  refine lv_iload hx hb d_Law_law_898 (lv_at hl 1 rfl) ?_
  refine lv_icmp_eq (tgt := 905) hx hb d_Law_law_900 (by decide) (fun c9 => ?_) (fun c9 => absurd (by decide) c9)
  refine lv_iload hx hb d_Law_law_905 (lv_at hl 1 rfl) ?_
  refine lv_if_ne (tgt := 921) hx hb d_Law_law_907 (by decide) (fun c9 => absurd (by decide) c9) (fun c9 => ?_)
  refine lv_aload_n hx hb d_Law_law_910 rfl (lv_at hl 3 rfl) ?_
  refine lv_iconst (v := 0) hx hb d_Law_law_911 (by decide) ?_
  have hz9 : 0 < mZ M1 16 jo := hout
  refine me_lald hx hb hK (fk_Pl hP) hwf hjo (me_in (i := (0 : Int32)) (k := 0) (by decide) (by decide) hz9) d_Law_law_912 ?_
  refine fg_topl (y := mL M1 16 jo 0) (congrArg _ (by decide)) ?_
  refine lv_lload hx hb d_Law_law_913 (lv_at hl 0 rfl) ?_
  refine W.lcmp hx hb d_Law_law_915 ?_
  refine fg_topi (y := 0) ((lg_cmp_eq _ _).mpr hob) ?_
  refine lv_if_eq (tgt := 921) hx hb d_Law_law_916 (by decide) (fun c9 => ?_) (fun c9 => absurd (by decide) c9)
  refine lv_goto (tgt := 1029) hx hb d_Law_law_921 (by decide) ?_
  exact kk ad N _ _ _ _ _ (fun _ => Nat.le_refl _) hwf hwr hcl hP hD hS (lv_sub hl [2, 3, 4, 5, 6] rfl) (by omega) (by omega)
set_option maxHeartbeats 4000000 in
set_option maxRecDepth 100000 in
theorem law_12_1 {p : Program} {l : Launch} {e : Env} {s : Jvm.State} {m : MethodId} {below : List Frame} {meth : Method} {c : Code} {b L i : Nat} {xs : Nat → Int32} {A : Nat → Prop} {D : va_G} {ca : Nat → ClassId} {ad bd : Nat → Nat → Nat} {N NR : Nat → Nat} {M M1 R R1 : me_M} {jo : Nat} {H : Heap} {locs : List Loc} {ls : Array Slot} {cells slots : Nat} {Q : Jvm.State → Prop} {R2 : me_M} {rb : Int64} (hl9 : l.stackTraces = false) (hx : p.tables.exec = Jvm.exec) (hb : c.code = code) (hml : c.maxLocals = 8) (hown : s.vm.findClass "FilterGuardLaw" = some m.cls) (hts : ∀ w ∈ fg_g, w.before #[Value.ref b] s = true) (hX : fg_X s) (hz : fg_Z A s s.heap) (hy : fg_Y s) (hXs : va_X b L xs s s.heap) (hbl : b < s.heap.size) (hbA : ¬ A b) (hA : ∀ q : Nat, s.heap.size ≤ q → A q) (hK : va_K D classes (me_T ca) s) (hL : L ≤ 3072) (hi : i + 6 ≤ L) (hwf : me_wf N M) (hwr : me_wf NR R) (hcl : me_cN N ≤ me_CL ∧ me_sN N ≤ me_SL) (h00 : 0 < N 0) (h10 : 0 < NR 1) (hjo : jo < N 16) (hP : va_P D classes (me_W ad ca M ++ me_W bd ca R) H) (hD : va_D A (me_W ad ca M ++ me_W bd ca R)) (hS : va_S A s.heap H locs) (hl : lv_has ls 8 [(4, .int (nI i)), (3, .ref (ad 16 jo)), (2, .ref (bd 1 0)), (1, .ref (ad 0 0)), (0, .ref b)]) (hfit : cells + (me_CL - me_cN N) + 8 ≤ 601024 ∧ slots + (me_SL - me_sN N) + 48 ≤ 7293034) (e1 : fT1_G_run M 0 (xs (i + 1)) = some M1) (e2 : f_M_run R 0 (xs (i + 1)) = some (R2, rb)) (e3 : f_M_thrown R2 0 = some (R1, 1)) (kk : ∀ (ad1 : Nat → Nat → Nat) (N1 : Nat → Nat) (H1 : Heap) (locs1 : List Loc) (ls1 : Array Slot) (cells1 slots1 : Nat), (∀ a, N a ≤ N1 a) → me_wf N1 M1 → me_wf NR R1 → (me_cN N1 ≤ me_CL ∧ me_sN N1 ≤ me_SL) → va_P D classes (me_W ad1 ca M1 ++ me_W bd ca R1) H1 → va_D A (me_W ad1 ca M1 ++ me_W bd ca R1) → va_S A s.heap H1 locs1 → lv_has ls1 8 [(4, .int (nI i)), (3, .ref (ad1 16 jo)), (2, .ref (bd 1 0)), (1, .ref (ad1 0 0)), (0, .ref b)] → cells1 + me_cN N ≤ cells + me_cN N1 + 1 → slots1 + me_sN N ≤ slots + me_sN N1 + 6 → W p l e room_1 s m #[Value.ref b] below meth c H1 locs1 cells1 slots1 Q (F0 m 1029 ls1 [])) : W p l e room_1 s m #[Value.ref b] below meth c H locs cells slots Q (F0 m 869 ls []) := by
  refine lv_aload_n hx hb d_Law_law_869 rfl (lv_at hl 3 rfl) ?_
  refine lv_aload_n hx hb d_Law_law_870 rfl (lv_at hl 4 rfl) ?_
  refine lv_iload hx hb d_Law_law_871 (lv_at hl 0 rfl) ?_
  refine lv_iconst (v := 1) hx hb d_Law_law_873 (by decide) ?_
  refine lv_iadd hx hb d_Law_law_874 ?_
  refine fg_topi (y := nI (i + 1)) (nI_add i 1) ?_
  refine va_sld hx hb hXs hbl hbA hS (nI_in (c := i + 1) (N := L) (by omega) (by omega)) d_Law_law_875 ?_
  refine fg_topi (y := xs (i + 1)) (by rw [nI_clamp (by omega)]) ?_
  refine lv_aload_n hx hb d_Law_law_876 rfl (lv_at hl 1 rfl) ?_
  refine lw_Mi (r0 := 1) (M1 := M1) (al_runSH (As := [.ref (ad 0 0), .int (xs (i + 1)), .ref (ad 16 jo)]) (rest := []) ⟨hx, hb, hml, hown, hts⟩ (cH1_Law_run l hl9 D ad ca N M M1 0 (xs (i + 1)) jo e1 hwf h00 hjo _) (by show fg_nm y_Law_run 3; decide +kernel) u_1563 u_1564 u_180 u_1565 ⟨Nat.le_of_ble_eq_true rfl, Nat.le_of_ble_eq_true rfl⟩ hX (fk_Pl hP) hK (fk_Dl hD) hz hy hS hA rfl hl.1 (Nat.le_of_ble_eq_true rfl) d_Law_law_877 (by exact lw_f1 hfit)) hP hD hK hS hA (fun H locs hw hP hD hS => ?_)
  obtain ⟨cells0, hc0⟩ : ∃ z, z = cells := ⟨_, rfl⟩
  obtain ⟨slots0, hs0⟩ : ∃ z, z = slots := ⟨_, rfl⟩
  refine W.widen (k := cells + 1) (n := slots + 6) (Nat.le_refl _) (Nat.le_refl _) ?_
  have hwf := hw
  have hfit := lw_ft hfit
  generalize hce : cells + 1 = cells1 at hfit ⊢
  generalize hse : slots + 6 = slots1 at hfit ⊢
  refine lv_istore (lv' := [(5, .int 1), (4, .int (nI i)), (3, .ref (ad 16 jo)), (2, .ref (bd 1 0)), (1, .ref (ad 0 0)), (0, .ref b)]) hx hb d_Law_law_880 hl (by decide) rfl (fun ls hl => ?_)
  refine lv_aload_n hx hb d_Law_law_882 rfl (lv_at hl 3 rfl) ?_
  refine lv_aload_n hx hb d_Law_law_883 rfl (lv_at hl 5 rfl) ?_
  refine lv_iload hx hb d_Law_law_884 (lv_at hl 1 rfl) ?_
  refine lv_iconst (v := 1) hx hb d_Law_law_886 (by decide) ?_
  refine lv_iadd hx hb d_Law_law_887 ?_
  refine fg_topi (y := nI (i + 1)) (nI_add i 1) ?_
  refine va_sld hx hb hXs hbl hbA hS (nI_in (c := i + 1) (N := L) (by omega) (by omega)) d_Law_law_888 ?_
  refine fg_topi (y := xs (i + 1)) (by rw [nI_clamp (by omega)]) ?_
  refine lw_Rl (r0 := rb) (R1 := R2) (me_runV (C := "FilterGuardModel") (As := [.int (xs (i + 1))]) (rest := []) ⟨hx, hb, hml, hown, hts⟩ (c_M_run l D bd ca NR R R2 rb 0 (xs (i + 1)) e2 hwr h10 _) rfl (by show fg_nm y_M_run 1; decide +kernel) u_2459 u_2460 u_2461 u_192 u_2462 ⟨Nat.le_of_ble_eq_true rfl, Nat.le_of_ble_eq_true rfl⟩ hX hz.2 hK (fk_Pr hP) (fk_Dr hD) hwr hS hA h10 (by decide) rfl rfl rfl hl.1 (Nat.le_of_ble_eq_true rfl) d_Law_law_889 (by exact lw_f2 hfit)) hP hD hK hS hA (fun H locs hw hP hD hS => ?_)
  refine W.widen (k := cells1) (n := slots1) (Nat.le_refl _) (Nat.le_refl _) ?_
  have hwr := hw.1
  refine lv_lstore (lv' := [(6, .long rb), (5, .int 1), (4, .int (nI i)), (3, .ref (ad 16 jo)), (2, .ref (bd 1 0)), (1, .ref (ad 0 0)), (0, .ref b)]) hx hb d_Law_law_892 hl (by decide) rfl (fun ls hl => ?_)
  refine lv_aload_n hx hb d_Law_law_894 rfl (lv_at hl 4 rfl) ?_
  refine lw_Ri (r0 := 1) (R1 := R1) (me_runV (C := "FilterGuardModel") (As := []) (rest := []) ⟨hx, hb, hml, hown, hts⟩ (c_M_thrown l D bd ca NR R2 R1 (1 : Int32) 0 e3 hwr h10 _) rfl (by show fg_nm y_M_thrown 0; decide +kernel) u_1967 u_1968 u_1969 u_192 u_1970 ⟨Nat.le_of_ble_eq_true rfl, Nat.le_of_ble_eq_true rfl⟩ hX hz.2 hK (fk_Pr hP) (fk_Dr hD) hwr hS hA h10 (by decide) rfl rfl rfl hl.1 (Nat.le_of_ble_eq_true rfl) d_Law_law_895 (by exact lw_f2 hfit)) hP hD hK hS hA (fun H locs hw hP hD hS => ?_)
  refine W.widen (k := cells1) (n := slots1) (Nat.le_refl _) (Nat.le_refl _) ?_
  have hwr := hw.1
  refine lv_iload hx hb d_Law_law_898 (lv_at hl 1 rfl) ?_
  refine lv_icmp_eq (tgt := 905) hx hb d_Law_law_900 (by decide) (fun c9 => ?_) (fun c9 => absurd (by decide) c9)
  refine lv_iload hx hb d_Law_law_905 (lv_at hl 1 rfl) ?_
  refine lv_if_ne (tgt := 921) hx hb d_Law_law_907 (by decide) (fun c9 => ?_) (fun c9 => absurd c9 (by decide))
  refine lv_goto (tgt := 1029) hx hb d_Law_law_921 (by decide) ?_
  exact kk ad N _ _ _ _ _ (fun _ => Nat.le_refl _) hwf hwr hcl hP hD hS (lv_sub hl [2, 3, 4, 5, 6] rfl) (by omega) (by omega)
set_option maxHeartbeats 4000000 in
set_option maxRecDepth 100000 in
theorem law_12_2 {p : Program} {l : Launch} {e : Env} {s : Jvm.State} {m : MethodId} {below : List Frame} {meth : Method} {c : Code} {b L i : Nat} {xs : Nat → Int32} {A : Nat → Prop} {D : va_G} {ca : Nat → ClassId} {ad bd : Nat → Nat → Nat} {N NR : Nat → Nat} {M M1 R R1 : me_M} {jo : Nat} {H : Heap} {locs : List Loc} {ls : Array Slot} {cells slots : Nat} {Q : Jvm.State → Prop} {R2 : me_M} {rb : Int64} (hl9 : l.stackTraces = false) (hx : p.tables.exec = Jvm.exec) (hb : c.code = code) (hml : c.maxLocals = 8) (hown : s.vm.findClass "FilterGuardLaw" = some m.cls) (hts : ∀ w ∈ fg_g, w.before #[Value.ref b] s = true) (hX : fg_X s) (hz : fg_Z A s s.heap) (hy : fg_Y s) (hXs : va_X b L xs s s.heap) (hbl : b < s.heap.size) (hbA : ¬ A b) (hA : ∀ q : Nat, s.heap.size ≤ q → A q) (hK : va_K D classes (me_T ca) s) (hL : L ≤ 3072) (hi : i + 6 ≤ L) (hwf : me_wf N M) (hwr : me_wf NR R) (hcl : me_cN N ≤ me_CL ∧ me_sN N ≤ me_SL) (h00 : 0 < N 0) (h10 : 0 < NR 1) (hjo : jo < N 16) (hP : va_P D classes (me_W ad ca M ++ me_W bd ca R) H) (hD : va_D A (me_W ad ca M ++ me_W bd ca R)) (hS : va_S A s.heap H locs) (hl : lv_has ls 8 [(4, .int (nI i)), (3, .ref (ad 16 jo)), (2, .ref (bd 1 0)), (1, .ref (ad 0 0)), (0, .ref b)]) (hfit : cells + (me_CL - me_cN N) + 8 ≤ 601024 ∧ slots + (me_SL - me_sN N) + 48 ≤ 7293034) (e1 : fT2_G_run M 0 (xs (i + 1)) = some M1) (e2 : f_M_run R 0 (xs (i + 1)) = some (R2, rb)) (e3 : f_M_thrown R2 0 = some (R1, 2)) (kk : ∀ (ad1 : Nat → Nat → Nat) (N1 : Nat → Nat) (H1 : Heap) (locs1 : List Loc) (ls1 : Array Slot) (cells1 slots1 : Nat), (∀ a, N a ≤ N1 a) → me_wf N1 M1 → me_wf NR R1 → (me_cN N1 ≤ me_CL ∧ me_sN N1 ≤ me_SL) → va_P D classes (me_W ad1 ca M1 ++ me_W bd ca R1) H1 → va_D A (me_W ad1 ca M1 ++ me_W bd ca R1) → va_S A s.heap H1 locs1 → lv_has ls1 8 [(4, .int (nI i)), (3, .ref (ad1 16 jo)), (2, .ref (bd 1 0)), (1, .ref (ad1 0 0)), (0, .ref b)] → cells1 + me_cN N ≤ cells + me_cN N1 + 1 → slots1 + me_sN N ≤ slots + me_sN N1 + 6 → W p l e room_1 s m #[Value.ref b] below meth c H1 locs1 cells1 slots1 Q (F0 m 1029 ls1 [])) : W p l e room_1 s m #[Value.ref b] below meth c H locs cells slots Q (F0 m 869 ls []) := by
  refine lv_aload_n hx hb d_Law_law_869 rfl (lv_at hl 3 rfl) ?_
  refine lv_aload_n hx hb d_Law_law_870 rfl (lv_at hl 4 rfl) ?_
  refine lv_iload hx hb d_Law_law_871 (lv_at hl 0 rfl) ?_
  refine lv_iconst (v := 1) hx hb d_Law_law_873 (by decide) ?_
  refine lv_iadd hx hb d_Law_law_874 ?_
  refine fg_topi (y := nI (i + 1)) (nI_add i 1) ?_
  refine va_sld hx hb hXs hbl hbA hS (nI_in (c := i + 1) (N := L) (by omega) (by omega)) d_Law_law_875 ?_
  refine fg_topi (y := xs (i + 1)) (by rw [nI_clamp (by omega)]) ?_
  refine lv_aload_n hx hb d_Law_law_876 rfl (lv_at hl 1 rfl) ?_
  refine lw_Mi (r0 := 2) (M1 := M1) (al_runSH (As := [.ref (ad 0 0), .int (xs (i + 1)), .ref (ad 16 jo)]) (rest := []) ⟨hx, hb, hml, hown, hts⟩ (cH2_Law_run l hl9 D ad ca N M M1 0 (xs (i + 1)) jo e1 hwf h00 hjo _) (by show fg_nm y_Law_run 3; decide +kernel) u_1563 u_1564 u_180 u_1565 ⟨Nat.le_of_ble_eq_true rfl, Nat.le_of_ble_eq_true rfl⟩ hX (fk_Pl hP) hK (fk_Dl hD) hz hy hS hA rfl hl.1 (Nat.le_of_ble_eq_true rfl) d_Law_law_877 (by exact lw_f1 hfit)) hP hD hK hS hA (fun H locs hw hP hD hS => ?_)
  obtain ⟨cells0, hc0⟩ : ∃ z, z = cells := ⟨_, rfl⟩
  obtain ⟨slots0, hs0⟩ : ∃ z, z = slots := ⟨_, rfl⟩
  refine W.widen (k := cells + 1) (n := slots + 6) (Nat.le_refl _) (Nat.le_refl _) ?_
  have hwf := hw
  have hfit := lw_ft hfit
  generalize hce : cells + 1 = cells1 at hfit ⊢
  generalize hse : slots + 6 = slots1 at hfit ⊢
  refine lv_istore (lv' := [(5, .int 2), (4, .int (nI i)), (3, .ref (ad 16 jo)), (2, .ref (bd 1 0)), (1, .ref (ad 0 0)), (0, .ref b)]) hx hb d_Law_law_880 hl (by decide) rfl (fun ls hl => ?_)
  refine lv_aload_n hx hb d_Law_law_882 rfl (lv_at hl 3 rfl) ?_
  refine lv_aload_n hx hb d_Law_law_883 rfl (lv_at hl 5 rfl) ?_
  refine lv_iload hx hb d_Law_law_884 (lv_at hl 1 rfl) ?_
  refine lv_iconst (v := 1) hx hb d_Law_law_886 (by decide) ?_
  refine lv_iadd hx hb d_Law_law_887 ?_
  refine fg_topi (y := nI (i + 1)) (nI_add i 1) ?_
  refine va_sld hx hb hXs hbl hbA hS (nI_in (c := i + 1) (N := L) (by omega) (by omega)) d_Law_law_888 ?_
  refine fg_topi (y := xs (i + 1)) (by rw [nI_clamp (by omega)]) ?_
  refine lw_Rl (r0 := rb) (R1 := R2) (me_runV (C := "FilterGuardModel") (As := [.int (xs (i + 1))]) (rest := []) ⟨hx, hb, hml, hown, hts⟩ (c_M_run l D bd ca NR R R2 rb 0 (xs (i + 1)) e2 hwr h10 _) rfl (by show fg_nm y_M_run 1; decide +kernel) u_2459 u_2460 u_2461 u_192 u_2462 ⟨Nat.le_of_ble_eq_true rfl, Nat.le_of_ble_eq_true rfl⟩ hX hz.2 hK (fk_Pr hP) (fk_Dr hD) hwr hS hA h10 (by decide) rfl rfl rfl hl.1 (Nat.le_of_ble_eq_true rfl) d_Law_law_889 (by exact lw_f2 hfit)) hP hD hK hS hA (fun H locs hw hP hD hS => ?_)
  refine W.widen (k := cells1) (n := slots1) (Nat.le_refl _) (Nat.le_refl _) ?_
  have hwr := hw.1
  refine lv_lstore (lv' := [(6, .long rb), (5, .int 2), (4, .int (nI i)), (3, .ref (ad 16 jo)), (2, .ref (bd 1 0)), (1, .ref (ad 0 0)), (0, .ref b)]) hx hb d_Law_law_892 hl (by decide) rfl (fun ls hl => ?_)
  refine lv_aload_n hx hb d_Law_law_894 rfl (lv_at hl 4 rfl) ?_
  refine lw_Ri (r0 := 2) (R1 := R1) (me_runV (C := "FilterGuardModel") (As := []) (rest := []) ⟨hx, hb, hml, hown, hts⟩ (c_M_thrown l D bd ca NR R2 R1 (2 : Int32) 0 e3 hwr h10 _) rfl (by show fg_nm y_M_thrown 0; decide +kernel) u_1967 u_1968 u_1969 u_192 u_1970 ⟨Nat.le_of_ble_eq_true rfl, Nat.le_of_ble_eq_true rfl⟩ hX hz.2 hK (fk_Pr hP) (fk_Dr hD) hwr hS hA h10 (by decide) rfl rfl rfl hl.1 (Nat.le_of_ble_eq_true rfl) d_Law_law_895 (by exact lw_f2 hfit)) hP hD hK hS hA (fun H locs hw hP hD hS => ?_)
  refine W.widen (k := cells1) (n := slots1) (Nat.le_refl _) (Nat.le_refl _) ?_
  have hwr := hw.1
  refine lv_iload hx hb d_Law_law_898 (lv_at hl 1 rfl) ?_
  refine lv_icmp_eq (tgt := 905) hx hb d_Law_law_900 (by decide) (fun c9 => ?_) (fun c9 => absurd (by decide) c9)
  refine lv_iload hx hb d_Law_law_905 (lv_at hl 1 rfl) ?_
  refine lv_if_ne (tgt := 921) hx hb d_Law_law_907 (by decide) (fun c9 => ?_) (fun c9 => absurd c9 (by decide))
  refine lv_goto (tgt := 1029) hx hb d_Law_law_921 (by decide) ?_
  exact kk ad N _ _ _ _ _ (fun _ => Nat.le_refl _) hwf hwr hcl hP hD hS (lv_sub hl [2, 3, 4, 5, 6] rfl) (by omega) (by omega)
theorem d_Law_law_924 : decode code 924 = .ok (.aload_n 1, 1) := by decide +kernel
theorem d_Law_law_925 : decode code 925 = .ok (.aload_n 0, 1) := by decide +kernel
theorem d_Law_law_926 : decode code 926 = .ok (.iload 4, 2) := by decide +kernel
theorem d_Law_law_928 : decode code 928 = .ok (.iconst 1, 1) := by decide +kernel
theorem d_Law_law_929 : decode code 929 = .ok (.iadd, 1) := by decide +kernel
theorem d_Law_law_930 : decode code 930 = .ok (.iaload, 1) := by decide +kernel
theorem d_Law_law_931 : decode code 931 = .ok (.invokevirtual 114, 3) := by decide +kernel
theorem u_791 : Cond.methodLink "FilterGuardLaw" 114 ⟨"FilterGuard", "ran", "(I)I"⟩ ∈ fg_g := fg_in (List.mem_of_getElem? (i := 791) (by decide +kernel)) rfl
theorem u_794 : Cond.code ⟨"FilterGuard", "ran", "(I)I"⟩ prog_1_method_16_code 2 (some .int) ∈ fg_g := fg_in (List.mem_of_getElem? (i := 794) (by decide +kernel)) rfl
theorem u_792 : Cond.instanceMethod ⟨"FilterGuard", "ran", "(I)I"⟩ ∈ fg_g := fg_in (List.mem_of_getElem? (i := 792) (by decide +kernel)) rfl
theorem u_793 : Cond.selects "FilterGuard" ⟨"FilterGuard", "ran", "(I)I"⟩ ⟨"FilterGuard", "ran", "(I)I"⟩ ∈ fg_g := fg_in (List.mem_of_getElem? (i := 793) (by decide +kernel)) rfl
theorem d_Law_law_934 : decode code 934 = .ok (.aload_n 2, 1) := by decide +kernel
theorem d_Law_law_935 : decode code 935 = .ok (.aload_n 0, 1) := by decide +kernel
theorem d_Law_law_936 : decode code 936 = .ok (.iload 4, 2) := by decide +kernel
theorem d_Law_law_938 : decode code 938 = .ok (.iconst 1, 1) := by decide +kernel
theorem d_Law_law_939 : decode code 939 = .ok (.iadd, 1) := by decide +kernel
theorem d_Law_law_940 : decode code 940 = .ok (.iaload, 1) := by decide +kernel
theorem d_Law_law_941 : decode code 941 = .ok (.invokevirtual 117, 3) := by decide +kernel
theorem u_2515 : Cond.methodLink "FilterGuardLaw" 117 ⟨"FilterGuardModel", "ran", "(I)I"⟩ ∈ fg_g := fg_in (List.mem_of_getElem? (i := 2515) (by decide +kernel)) rfl
theorem u_2518 : Cond.code ⟨"FilterGuardModel", "ran", "(I)I"⟩ prog_14_method_138_code 2 (some .int) ∈ fg_g := fg_in (List.mem_of_getElem? (i := 2518) (by decide +kernel)) rfl
theorem u_2516 : Cond.instanceMethod ⟨"FilterGuardModel", "ran", "(I)I"⟩ ∈ fg_g := fg_in (List.mem_of_getElem? (i := 2516) (by decide +kernel)) rfl
theorem u_2517 : Cond.selects "FilterGuardModel" ⟨"FilterGuardModel", "ran", "(I)I"⟩ ⟨"FilterGuardModel", "ran", "(I)I"⟩ ∈ fg_g := fg_in (List.mem_of_getElem? (i := 2517) (by decide +kernel)) rfl
theorem d_Law_law_944 : decode code 944 = .ok (.if_icmp .eq 85, 3) := by decide +kernel
set_option maxHeartbeats 4000000 in
set_option maxRecDepth 100000 in
theorem law_13 {p : Program} {l : Launch} {e : Env} {s : Jvm.State} {m : MethodId} {below : List Frame} {meth : Method} {c : Code} {b L i : Nat} {xs : Nat → Int32} {A : Nat → Prop} {D : va_G} {ca : Nat → ClassId} {ad bd : Nat → Nat → Nat} {N NR : Nat → Nat} {M M1 R R1 : me_M} {jo : Nat} {H : Heap} {locs : List Loc} {ls : Array Slot} {cells slots : Nat} {Q : Jvm.State → Prop} {r : Int32} (hl9 : l.stackTraces = false) (hx : p.tables.exec = Jvm.exec) (hb : c.code = code) (hml : c.maxLocals = 8) (hown : s.vm.findClass "FilterGuardLaw" = some m.cls) (hts : ∀ w ∈ fg_g, w.before #[Value.ref b] s = true) (hX : fg_X s) (hz : fg_Z A s s.heap) (hy : fg_Y s) (hXs : va_X b L xs s s.heap) (hbl : b < s.heap.size) (hbA : ¬ A b) (hA : ∀ q : Nat, s.heap.size ≤ q → A q) (hK : va_K D classes (me_T ca) s) (hL : L ≤ 3072) (hi : i + 6 ≤ L) (hwf : me_wf N M) (hwr : me_wf NR R) (hcl : me_cN N ≤ me_CL ∧ me_sN N ≤ me_SL) (h00 : 0 < N 0) (h10 : 0 < NR 1) (hjo : jo < N 16) (hP : va_P D classes (me_W ad ca M ++ me_W bd ca R) H) (hD : va_D A (me_W ad ca M ++ me_W bd ca R)) (hS : va_S A s.heap H locs) (hl : lv_has ls 8 [(4, .int (nI i)), (3, .ref (ad 16 jo)), (2, .ref (bd 1 0)), (1, .ref (ad 0 0)), (0, .ref b)]) (hfit : cells + (me_CL - me_cN N) + 8 ≤ 601024 ∧ slots + (me_SL - me_sN N) + 48 ≤ 7293034) (e1 : f_G_ran M 0 (xs (i + 1)) = some (M1, r)) (e2 : f_M_ran R 0 (xs (i + 1)) = some (R1, r)) (kk : ∀ (ad1 : Nat → Nat → Nat) (N1 : Nat → Nat) (H1 : Heap) (locs1 : List Loc) (ls1 : Array Slot) (cells1 slots1 : Nat), (∀ a, N a ≤ N1 a) → me_wf N1 M1 → me_wf NR R1 → (me_cN N1 ≤ me_CL ∧ me_sN N1 ≤ me_SL) → va_P D classes (me_W ad1 ca M1 ++ me_W bd ca R1) H1 → va_D A (me_W ad1 ca M1 ++ me_W bd ca R1) → va_S A s.heap H1 locs1 → lv_has ls1 8 [(4, .int (nI i)), (3, .ref (ad1 16 jo)), (2, .ref (bd 1 0)), (1, .ref (ad1 0 0)), (0, .ref b)] → cells1 + me_cN N ≤ cells + me_cN N1 + 1 → slots1 + me_sN N ≤ slots + me_sN N1 + 6 → W p l e room_1 s m #[Value.ref b] below meth c H1 locs1 cells1 slots1 Q (F0 m 1029 ls1 [])) : W p l e room_1 s m #[Value.ref b] below meth c H locs cells slots Q (F0 m 924 ls []) := by
  refine lv_aload_n hx hb d_Law_law_924 rfl (lv_at hl 3 rfl) ?_
  refine lv_aload_n hx hb d_Law_law_925 rfl (lv_at hl 4 rfl) ?_
  refine lv_iload hx hb d_Law_law_926 (lv_at hl 0 rfl) ?_
  refine lv_iconst (v := 1) hx hb d_Law_law_928 (by decide) ?_
  refine lv_iadd hx hb d_Law_law_929 ?_
  refine fg_topi (y := nI (i + 1)) (nI_add i 1) ?_
  refine va_sld hx hb hXs hbl hbA hS (nI_in (c := i + 1) (N := L) (by omega) (by omega)) d_Law_law_930 ?_
  refine fg_topi (y := xs (i + 1)) (by rw [nI_clamp (by omega)]) ?_
  refine lw_Mi (r0 := r) (M1 := M1) (me_runV (C := "FilterGuard") (As := [.int (xs (i + 1))]) (rest := []) ⟨hx, hb, hml, hown, hts⟩ (c_G_ran l D ad ca N M M1 r 0 (xs (i + 1)) e1 hwf h00 _) rfl (by show fg_nm y_G_ran 1; decide +kernel) u_791 u_792 u_793 u_181 u_794 ⟨Nat.le_of_ble_eq_true rfl, Nat.le_of_ble_eq_true rfl⟩ hX hz.2 hK (fk_Pl hP) (fk_Dl hD) hwf hS hA h00 (by decide) rfl rfl rfl hl.1 (Nat.le_of_ble_eq_true rfl) d_Law_law_931 (by exact lw_f0 hfit)) hP hD hK hS hA (fun H locs hw hP hD hS => ?_)
  refine W.widen (k := cells) (n := slots) (Nat.le_refl _) (Nat.le_refl _) ?_
  have hwf := hw.1
  refine lv_aload_n hx hb d_Law_law_934 rfl (lv_at hl 2 rfl) ?_
  refine lv_aload_n hx hb d_Law_law_935 rfl (lv_at hl 4 rfl) ?_
  refine lv_iload hx hb d_Law_law_936 (lv_at hl 0 rfl) ?_
  refine lv_iconst (v := 1) hx hb d_Law_law_938 (by decide) ?_
  refine lv_iadd hx hb d_Law_law_939 ?_
  refine fg_topi (y := nI (i + 1)) (nI_add i 1) ?_
  refine va_sld hx hb hXs hbl hbA hS (nI_in (c := i + 1) (N := L) (by omega) (by omega)) d_Law_law_940 ?_
  refine fg_topi (y := xs (i + 1)) (by rw [nI_clamp (by omega)]) ?_
  refine lw_Ri (r0 := r) (R1 := R1) (me_runV (C := "FilterGuardModel") (As := [.int (xs (i + 1))]) (rest := [.int r]) ⟨hx, hb, hml, hown, hts⟩ (c_M_ran l D bd ca NR R R1 r 0 (xs (i + 1)) e2 hwr h10 _) rfl (by show fg_nm y_M_ran 1; decide +kernel) u_2515 u_2516 u_2517 u_192 u_2518 ⟨Nat.le_of_ble_eq_true rfl, Nat.le_of_ble_eq_true rfl⟩ hX hz.2 hK (fk_Pr hP) (fk_Dr hD) hwr hS hA h10 (by decide) rfl rfl rfl hl.1 (Nat.le_of_ble_eq_true rfl) d_Law_law_941 (by exact lw_f0 hfit)) hP hD hK hS hA (fun H locs hw hP hD hS => ?_)
  refine W.widen (k := cells) (n := slots) (Nat.le_refl _) (Nat.le_refl _) ?_
  have hwr := hw.1
  refine lv_icmp_eq (tgt := 1029) hx hb d_Law_law_944 (by decide) (fun c9 => ?_) (fun c9 => absurd rfl c9)
  exact kk ad N _ _ _ _ _ (fun _ => Nat.le_refl _) hwf hwr hcl hP hD hS (lv_sub hl [0, 1, 2, 3, 4] rfl) (by omega) (by omega)
theorem d_Law_law_949 : decode code 949 = .ok (.aload_n 1, 1) := by decide +kernel
theorem d_Law_law_950 : decode code 950 = .ok (.aload_n 0, 1) := by decide +kernel
theorem d_Law_law_951 : decode code 951 = .ok (.iload 4, 2) := by decide +kernel
theorem d_Law_law_953 : decode code 953 = .ok (.iconst 1, 1) := by decide +kernel
theorem d_Law_law_954 : decode code 954 = .ok (.iadd, 1) := by decide +kernel
theorem d_Law_law_955 : decode code 955 = .ok (.iaload, 1) := by decide +kernel
theorem d_Law_law_956 : decode code 956 = .ok (.aload_n 3, 1) := by decide +kernel
theorem d_Law_law_957 : decode code 957 = .ok (.invokestatic 118, 3) := by decide +kernel
theorem u_1726 : Cond.methodLink "FilterGuardLaw" 118 ⟨"FilterGuardLaw", "told", "(LFilterGuard;I[J)I"⟩ ∈ fg_g := fg_in (List.mem_of_getElem? (i := 1726) (by decide +kernel)) rfl
theorem u_1728 : Cond.codeWith ⟨"FilterGuardLaw", "told", "(LFilterGuard;I[J)I"⟩ method_11_code 4 (some .int) [(0, 8, 11, 25)] ∈ fg_g := fg_in (List.mem_of_getElem? (i := 1728) (by decide +kernel)) rfl
theorem u_1727 : Cond.static ⟨"FilterGuardLaw", "told", "(LFilterGuard;I[J)I"⟩ ∈ fg_g := fg_in (List.mem_of_getElem? (i := 1727) (by decide +kernel)) rfl
theorem d_Law_law_960 : decode code 960 = .ok (.istore 5, 2) := by decide +kernel
theorem d_Law_law_962 : decode code 962 = .ok (.aload_n 2, 1) := by decide +kernel
theorem d_Law_law_963 : decode code 963 = .ok (.aload_n 0, 1) := by decide +kernel
theorem d_Law_law_964 : decode code 964 = .ok (.iload 4, 2) := by decide +kernel
theorem d_Law_law_966 : decode code 966 = .ok (.iconst 1, 1) := by decide +kernel
theorem d_Law_law_967 : decode code 967 = .ok (.iadd, 1) := by decide +kernel
theorem d_Law_law_968 : decode code 968 = .ok (.iaload, 1) := by decide +kernel
theorem d_Law_law_969 : decode code 969 = .ok (.invokevirtual 120, 3) := by decide +kernel
theorem u_2519 : Cond.methodLink "FilterGuardLaw" 120 ⟨"FilterGuardModel", "told", "(I)J"⟩ ∈ fg_g := fg_in (List.mem_of_getElem? (i := 2519) (by decide +kernel)) rfl
theorem u_2522 : Cond.code ⟨"FilterGuardModel", "told", "(I)J"⟩ prog_14_method_139_code 2 (some .long) ∈ fg_g := fg_in (List.mem_of_getElem? (i := 2522) (by decide +kernel)) rfl
theorem u_2520 : Cond.instanceMethod ⟨"FilterGuardModel", "told", "(I)J"⟩ ∈ fg_g := fg_in (List.mem_of_getElem? (i := 2520) (by decide +kernel)) rfl
theorem u_2521 : Cond.selects "FilterGuardModel" ⟨"FilterGuardModel", "told", "(I)J"⟩ ⟨"FilterGuardModel", "told", "(I)J"⟩ ∈ fg_g := fg_in (List.mem_of_getElem? (i := 2521) (by decide +kernel)) rfl
theorem d_Law_law_972 : decode code 972 = .ok (.lstore 6, 2) := by decide +kernel
theorem d_Law_law_974 : decode code 974 = .ok (.aload_n 2, 1) := by decide +kernel
theorem d_Law_law_975 : decode code 975 = .ok (.invokevirtual 64, 3) := by decide +kernel
theorem d_Law_law_978 : decode code 978 = .ok (.iload 5, 2) := by decide +kernel
theorem d_Law_law_980 : decode code 980 = .ok (.if_icmp .eq 5, 3) := by decide +kernel
theorem d_Law_law_985 : decode code 985 = .ok (.iload 5, 2) := by decide +kernel
theorem d_Law_law_987 : decode code 987 = .ok (.ifCond .ne 14, 3) := by decide +kernel
theorem d_Law_law_990 : decode code 990 = .ok (.aload_n 3, 1) := by decide +kernel
theorem d_Law_law_991 : decode code 991 = .ok (.iconst 0, 1) := by decide +kernel
theorem d_Law_law_992 : decode code 992 = .ok (.laload, 1) := by decide +kernel
theorem d_Law_law_993 : decode code 993 = .ok (.lload 6, 2) := by decide +kernel
theorem d_Law_law_995 : decode code 995 = .ok (.lcmp, 1) := by decide +kernel
theorem d_Law_law_996 : decode code 996 = .ok (.ifCond .eq 5, 3) := by decide +kernel
theorem d_Law_law_1001 : decode code 1001 = .ok (.goto 28, 3) := by decide +kernel
set_option maxHeartbeats 4000000 in
set_option maxRecDepth 100000 in
theorem law_14_0 {p : Program} {l : Launch} {e : Env} {s : Jvm.State} {m : MethodId} {below : List Frame} {meth : Method} {c : Code} {b L i : Nat} {xs : Nat → Int32} {A : Nat → Prop} {D : va_G} {ca : Nat → ClassId} {ad bd : Nat → Nat → Nat} {N NR : Nat → Nat} {M M1 R R1 : me_M} {jo : Nat} {H : Heap} {locs : List Loc} {ls : Array Slot} {cells slots : Nat} {Q : Jvm.State → Prop} {R2 : me_M} {rb : Int64} (hout : 0 < mZ M1 16 jo) (hl9 : l.stackTraces = false) (hx : p.tables.exec = Jvm.exec) (hb : c.code = code) (hml : c.maxLocals = 8) (hown : s.vm.findClass "FilterGuardLaw" = some m.cls) (hts : ∀ w ∈ fg_g, w.before #[Value.ref b] s = true) (hX : fg_X s) (hz : fg_Z A s s.heap) (hy : fg_Y s) (hXs : va_X b L xs s s.heap) (hbl : b < s.heap.size) (hbA : ¬ A b) (hA : ∀ q : Nat, s.heap.size ≤ q → A q) (hK : va_K D classes (me_T ca) s) (hL : L ≤ 3072) (hi : i + 6 ≤ L) (hwf : me_wf N M) (hwr : me_wf NR R) (hcl : me_cN N ≤ me_CL ∧ me_sN N ≤ me_SL) (h00 : 0 < N 0) (h10 : 0 < NR 1) (hjo : jo < N 16) (hP : va_P D classes (me_W ad ca M ++ me_W bd ca R) H) (hD : va_D A (me_W ad ca M ++ me_W bd ca R)) (hS : va_S A s.heap H locs) (hl : lv_has ls 8 [(4, .int (nI i)), (3, .ref (ad 16 jo)), (2, .ref (bd 1 0)), (1, .ref (ad 0 0)), (0, .ref b)]) (hfit : cells + (me_CL - me_cN N) + 8 ≤ 601024 ∧ slots + (me_SL - me_sN N) + 48 ≤ 7293034) (e1 : f_Law_told M 0 (xs (i + 1)) jo = some (M1, 0)) (e2 : f_M_told R 0 (xs (i + 1)) = some (R2, rb)) (e3 : f_M_thrown R2 0 = some (R1, 0)) (hob : mL M1 16 jo 0 = rb) (kk : ∀ (ad1 : Nat → Nat → Nat) (N1 : Nat → Nat) (H1 : Heap) (locs1 : List Loc) (ls1 : Array Slot) (cells1 slots1 : Nat), (∀ a, N a ≤ N1 a) → me_wf N1 M1 → me_wf NR R1 → (me_cN N1 ≤ me_CL ∧ me_sN N1 ≤ me_SL) → va_P D classes (me_W ad1 ca M1 ++ me_W bd ca R1) H1 → va_D A (me_W ad1 ca M1 ++ me_W bd ca R1) → va_S A s.heap H1 locs1 → lv_has ls1 8 [(4, .int (nI i)), (3, .ref (ad1 16 jo)), (2, .ref (bd 1 0)), (1, .ref (ad1 0 0)), (0, .ref b)] → cells1 + me_cN N ≤ cells + me_cN N1 + 1 → slots1 + me_sN N ≤ slots + me_sN N1 + 6 → W p l e room_1 s m #[Value.ref b] below meth c H1 locs1 cells1 slots1 Q (F0 m 1029 ls1 [])) : W p l e room_1 s m #[Value.ref b] below meth c H locs cells slots Q (F0 m 949 ls []) := by
  refine lv_aload_n hx hb d_Law_law_949 rfl (lv_at hl 3 rfl) ?_
  refine lv_aload_n hx hb d_Law_law_950 rfl (lv_at hl 4 rfl) ?_
  refine lv_iload hx hb d_Law_law_951 (lv_at hl 0 rfl) ?_
  refine lv_iconst (v := 1) hx hb d_Law_law_953 (by decide) ?_
  refine lv_iadd hx hb d_Law_law_954 ?_
  refine fg_topi (y := nI (i + 1)) (nI_add i 1) ?_
  refine va_sld hx hb hXs hbl hbA hS (nI_in (c := i + 1) (N := L) (by omega) (by omega)) d_Law_law_955 ?_
  refine fg_topi (y := xs (i + 1)) (by rw [nI_clamp (by omega)]) ?_
  refine lv_aload_n hx hb d_Law_law_956 rfl (lv_at hl 1 rfl) ?_
  refine lw_Mi (r0 := 0) (M1 := M1) (al_runSH (As := [.ref (ad 0 0), .int (xs (i + 1)), .ref (ad 16 jo)]) (rest := []) ⟨hx, hb, hml, hown, hts⟩ (c_Law_told l D ad ca N M M1 0 0 (xs (i + 1)) jo e1 hwf h00 hjo _) (by show fg_nm y_Law_told 3; decide +kernel) u_1726 u_1727 u_180 u_1728 ⟨Nat.le_of_ble_eq_true rfl, Nat.le_of_ble_eq_true rfl⟩ hX (fk_Pl hP) hK (fk_Dl hD) hz hy hS hA rfl hl.1 (Nat.le_of_ble_eq_true rfl) d_Law_law_957 (by exact lw_f0 hfit)) hP hD hK hS hA (fun H locs hw hP hD hS => ?_)
  refine W.widen (k := cells) (n := slots) (Nat.le_refl _) (Nat.le_refl _) ?_
  have hwf := hw.1
  refine lv_istore (lv' := [(5, .int 0), (4, .int (nI i)), (3, .ref (ad 16 jo)), (2, .ref (bd 1 0)), (1, .ref (ad 0 0)), (0, .ref b)]) hx hb d_Law_law_960 hl (by decide) rfl (fun ls hl => ?_)
  refine lv_aload_n hx hb d_Law_law_962 rfl (lv_at hl 3 rfl) ?_
  refine lv_aload_n hx hb d_Law_law_963 rfl (lv_at hl 5 rfl) ?_
  refine lv_iload hx hb d_Law_law_964 (lv_at hl 1 rfl) ?_
  refine lv_iconst (v := 1) hx hb d_Law_law_966 (by decide) ?_
  refine lv_iadd hx hb d_Law_law_967 ?_
  refine fg_topi (y := nI (i + 1)) (nI_add i 1) ?_
  refine va_sld hx hb hXs hbl hbA hS (nI_in (c := i + 1) (N := L) (by omega) (by omega)) d_Law_law_968 ?_
  refine fg_topi (y := xs (i + 1)) (by rw [nI_clamp (by omega)]) ?_
  refine lw_Rl (r0 := rb) (R1 := R2) (me_runV (C := "FilterGuardModel") (As := [.int (xs (i + 1))]) (rest := []) ⟨hx, hb, hml, hown, hts⟩ (c_M_told l D bd ca NR R R2 rb 0 (xs (i + 1)) e2 hwr h10 _) rfl (by show fg_nm y_M_told 1; decide +kernel) u_2519 u_2520 u_2521 u_192 u_2522 ⟨Nat.le_of_ble_eq_true rfl, Nat.le_of_ble_eq_true rfl⟩ hX hz.2 hK (fk_Pr hP) (fk_Dr hD) hwr hS hA h10 (by decide) rfl rfl rfl hl.1 (Nat.le_of_ble_eq_true rfl) d_Law_law_969 (by exact lw_f0 hfit)) hP hD hK hS hA (fun H locs hw hP hD hS => ?_)
  refine W.widen (k := cells) (n := slots) (Nat.le_refl _) (Nat.le_refl _) ?_
  have hwr := hw.1
  refine lv_lstore (lv' := [(6, .long rb), (5, .int 0), (4, .int (nI i)), (3, .ref (ad 16 jo)), (2, .ref (bd 1 0)), (1, .ref (ad 0 0)), (0, .ref b)]) hx hb d_Law_law_972 hl (by decide) rfl (fun ls hl => ?_)
  refine lv_aload_n hx hb d_Law_law_974 rfl (lv_at hl 4 rfl) ?_
  refine lw_Ri (r0 := 0) (R1 := R1) (me_runV (C := "FilterGuardModel") (As := []) (rest := []) ⟨hx, hb, hml, hown, hts⟩ (c_M_thrown l D bd ca NR R2 R1 (0 : Int32) 0 e3 hwr h10 _) rfl (by show fg_nm y_M_thrown 0; decide +kernel) u_1967 u_1968 u_1969 u_192 u_1970 ⟨Nat.le_of_ble_eq_true rfl, Nat.le_of_ble_eq_true rfl⟩ hX hz.2 hK (fk_Pr hP) (fk_Dr hD) hwr hS hA h10 (by decide) rfl rfl rfl hl.1 (Nat.le_of_ble_eq_true rfl) d_Law_law_975 (by exact lw_f0 hfit)) hP hD hK hS hA (fun H locs hw hP hD hS => ?_)
  refine W.widen (k := cells) (n := slots) (Nat.le_refl _) (Nat.le_refl _) ?_
  have hwr := hw.1
  refine lv_iload hx hb d_Law_law_978 (lv_at hl 1 rfl) ?_
  refine lv_icmp_eq (tgt := 985) hx hb d_Law_law_980 (by decide) (fun c9 => ?_) (fun c9 => absurd (by decide) c9)
  refine lv_iload hx hb d_Law_law_985 (lv_at hl 1 rfl) ?_
  refine lv_if_ne (tgt := 1001) hx hb d_Law_law_987 (by decide) (fun c9 => absurd (by decide) c9) (fun c9 => ?_)
  refine lv_aload_n hx hb d_Law_law_990 rfl (lv_at hl 3 rfl) ?_
  refine lv_iconst (v := 0) hx hb d_Law_law_991 (by decide) ?_
  have hz9 : 0 < mZ M1 16 jo := hout
  refine me_lald hx hb hK (fk_Pl hP) hwf hjo (me_in (i := (0 : Int32)) (k := 0) (by decide) (by decide) hz9) d_Law_law_992 ?_
  refine fg_topl (y := mL M1 16 jo 0) (congrArg _ (by decide)) ?_
  refine lv_lload hx hb d_Law_law_993 (lv_at hl 0 rfl) ?_
  refine W.lcmp hx hb d_Law_law_995 ?_
  refine fg_topi (y := 0) ((lg_cmp_eq _ _).mpr hob) ?_
  refine lv_if_eq (tgt := 1001) hx hb d_Law_law_996 (by decide) (fun c9 => ?_) (fun c9 => absurd (by decide) c9)
  refine lv_goto (tgt := 1029) hx hb d_Law_law_1001 (by decide) ?_
  exact kk ad N _ _ _ _ _ (fun _ => Nat.le_refl _) hwf hwr hcl hP hD hS (lv_sub hl [2, 3, 4, 5, 6] rfl) (by omega) (by omega)
set_option maxHeartbeats 4000000 in
set_option maxRecDepth 100000 in
theorem law_14_1 {p : Program} {l : Launch} {e : Env} {s : Jvm.State} {m : MethodId} {below : List Frame} {meth : Method} {c : Code} {b L i : Nat} {xs : Nat → Int32} {A : Nat → Prop} {D : va_G} {ca : Nat → ClassId} {ad bd : Nat → Nat → Nat} {N NR : Nat → Nat} {M M1 R R1 : me_M} {jo : Nat} {H : Heap} {locs : List Loc} {ls : Array Slot} {cells slots : Nat} {Q : Jvm.State → Prop} {R2 : me_M} {rb : Int64} (hl9 : l.stackTraces = false) (hx : p.tables.exec = Jvm.exec) (hb : c.code = code) (hml : c.maxLocals = 8) (hown : s.vm.findClass "FilterGuardLaw" = some m.cls) (hts : ∀ w ∈ fg_g, w.before #[Value.ref b] s = true) (hX : fg_X s) (hz : fg_Z A s s.heap) (hy : fg_Y s) (hXs : va_X b L xs s s.heap) (hbl : b < s.heap.size) (hbA : ¬ A b) (hA : ∀ q : Nat, s.heap.size ≤ q → A q) (hK : va_K D classes (me_T ca) s) (hL : L ≤ 3072) (hi : i + 6 ≤ L) (hwf : me_wf N M) (hwr : me_wf NR R) (hcl : me_cN N ≤ me_CL ∧ me_sN N ≤ me_SL) (h00 : 0 < N 0) (h10 : 0 < NR 1) (hjo : jo < N 16) (hP : va_P D classes (me_W ad ca M ++ me_W bd ca R) H) (hD : va_D A (me_W ad ca M ++ me_W bd ca R)) (hS : va_S A s.heap H locs) (hl : lv_has ls 8 [(4, .int (nI i)), (3, .ref (ad 16 jo)), (2, .ref (bd 1 0)), (1, .ref (ad 0 0)), (0, .ref b)]) (hfit : cells + (me_CL - me_cN N) + 8 ≤ 601024 ∧ slots + (me_SL - me_sN N) + 48 ≤ 7293034) (e1 : fT3_G_told M 0 (xs (i + 1)) = some M1) (e2 : f_M_told R 0 (xs (i + 1)) = some (R2, rb)) (e3 : f_M_thrown R2 0 = some (R1, 1)) (kk : ∀ (ad1 : Nat → Nat → Nat) (N1 : Nat → Nat) (H1 : Heap) (locs1 : List Loc) (ls1 : Array Slot) (cells1 slots1 : Nat), (∀ a, N a ≤ N1 a) → me_wf N1 M1 → me_wf NR R1 → (me_cN N1 ≤ me_CL ∧ me_sN N1 ≤ me_SL) → va_P D classes (me_W ad1 ca M1 ++ me_W bd ca R1) H1 → va_D A (me_W ad1 ca M1 ++ me_W bd ca R1) → va_S A s.heap H1 locs1 → lv_has ls1 8 [(4, .int (nI i)), (3, .ref (ad1 16 jo)), (2, .ref (bd 1 0)), (1, .ref (ad1 0 0)), (0, .ref b)] → cells1 + me_cN N ≤ cells + me_cN N1 + 1 → slots1 + me_sN N ≤ slots + me_sN N1 + 6 → W p l e room_1 s m #[Value.ref b] below meth c H1 locs1 cells1 slots1 Q (F0 m 1029 ls1 [])) : W p l e room_1 s m #[Value.ref b] below meth c H locs cells slots Q (F0 m 949 ls []) := by
  refine lv_aload_n hx hb d_Law_law_949 rfl (lv_at hl 3 rfl) ?_
  refine lv_aload_n hx hb d_Law_law_950 rfl (lv_at hl 4 rfl) ?_
  refine lv_iload hx hb d_Law_law_951 (lv_at hl 0 rfl) ?_
  refine lv_iconst (v := 1) hx hb d_Law_law_953 (by decide) ?_
  refine lv_iadd hx hb d_Law_law_954 ?_
  refine fg_topi (y := nI (i + 1)) (nI_add i 1) ?_
  refine va_sld hx hb hXs hbl hbA hS (nI_in (c := i + 1) (N := L) (by omega) (by omega)) d_Law_law_955 ?_
  refine fg_topi (y := xs (i + 1)) (by rw [nI_clamp (by omega)]) ?_
  refine lv_aload_n hx hb d_Law_law_956 rfl (lv_at hl 1 rfl) ?_
  refine lw_Mi (r0 := 1) (M1 := M1) (al_runSH (As := [.ref (ad 0 0), .int (xs (i + 1)), .ref (ad 16 jo)]) (rest := []) ⟨hx, hb, hml, hown, hts⟩ (cH3_Law_told l hl9 D ad ca N M M1 0 (xs (i + 1)) jo e1 hwf h00 hjo _) (by show fg_nm y_Law_told 3; decide +kernel) u_1726 u_1727 u_180 u_1728 ⟨Nat.le_of_ble_eq_true rfl, Nat.le_of_ble_eq_true rfl⟩ hX (fk_Pl hP) hK (fk_Dl hD) hz hy hS hA rfl hl.1 (Nat.le_of_ble_eq_true rfl) d_Law_law_957 (by exact lw_f1 hfit)) hP hD hK hS hA (fun H locs hw hP hD hS => ?_)
  obtain ⟨cells0, hc0⟩ : ∃ z, z = cells := ⟨_, rfl⟩
  obtain ⟨slots0, hs0⟩ : ∃ z, z = slots := ⟨_, rfl⟩
  refine W.widen (k := cells + 1) (n := slots + 6) (Nat.le_refl _) (Nat.le_refl _) ?_
  have hwf := hw
  have hfit := lw_ft hfit
  generalize hce : cells + 1 = cells1 at hfit ⊢
  generalize hse : slots + 6 = slots1 at hfit ⊢
  refine lv_istore (lv' := [(5, .int 1), (4, .int (nI i)), (3, .ref (ad 16 jo)), (2, .ref (bd 1 0)), (1, .ref (ad 0 0)), (0, .ref b)]) hx hb d_Law_law_960 hl (by decide) rfl (fun ls hl => ?_)
  refine lv_aload_n hx hb d_Law_law_962 rfl (lv_at hl 3 rfl) ?_
  refine lv_aload_n hx hb d_Law_law_963 rfl (lv_at hl 5 rfl) ?_
  refine lv_iload hx hb d_Law_law_964 (lv_at hl 1 rfl) ?_
  refine lv_iconst (v := 1) hx hb d_Law_law_966 (by decide) ?_
  refine lv_iadd hx hb d_Law_law_967 ?_
  refine fg_topi (y := nI (i + 1)) (nI_add i 1) ?_
  refine va_sld hx hb hXs hbl hbA hS (nI_in (c := i + 1) (N := L) (by omega) (by omega)) d_Law_law_968 ?_
  refine fg_topi (y := xs (i + 1)) (by rw [nI_clamp (by omega)]) ?_
  refine lw_Rl (r0 := rb) (R1 := R2) (me_runV (C := "FilterGuardModel") (As := [.int (xs (i + 1))]) (rest := []) ⟨hx, hb, hml, hown, hts⟩ (c_M_told l D bd ca NR R R2 rb 0 (xs (i + 1)) e2 hwr h10 _) rfl (by show fg_nm y_M_told 1; decide +kernel) u_2519 u_2520 u_2521 u_192 u_2522 ⟨Nat.le_of_ble_eq_true rfl, Nat.le_of_ble_eq_true rfl⟩ hX hz.2 hK (fk_Pr hP) (fk_Dr hD) hwr hS hA h10 (by decide) rfl rfl rfl hl.1 (Nat.le_of_ble_eq_true rfl) d_Law_law_969 (by exact lw_f2 hfit)) hP hD hK hS hA (fun H locs hw hP hD hS => ?_)
  refine W.widen (k := cells1) (n := slots1) (Nat.le_refl _) (Nat.le_refl _) ?_
  have hwr := hw.1
  refine lv_lstore (lv' := [(6, .long rb), (5, .int 1), (4, .int (nI i)), (3, .ref (ad 16 jo)), (2, .ref (bd 1 0)), (1, .ref (ad 0 0)), (0, .ref b)]) hx hb d_Law_law_972 hl (by decide) rfl (fun ls hl => ?_)
  refine lv_aload_n hx hb d_Law_law_974 rfl (lv_at hl 4 rfl) ?_
  refine lw_Ri (r0 := 1) (R1 := R1) (me_runV (C := "FilterGuardModel") (As := []) (rest := []) ⟨hx, hb, hml, hown, hts⟩ (c_M_thrown l D bd ca NR R2 R1 (1 : Int32) 0 e3 hwr h10 _) rfl (by show fg_nm y_M_thrown 0; decide +kernel) u_1967 u_1968 u_1969 u_192 u_1970 ⟨Nat.le_of_ble_eq_true rfl, Nat.le_of_ble_eq_true rfl⟩ hX hz.2 hK (fk_Pr hP) (fk_Dr hD) hwr hS hA h10 (by decide) rfl rfl rfl hl.1 (Nat.le_of_ble_eq_true rfl) d_Law_law_975 (by exact lw_f2 hfit)) hP hD hK hS hA (fun H locs hw hP hD hS => ?_)
  refine W.widen (k := cells1) (n := slots1) (Nat.le_refl _) (Nat.le_refl _) ?_
  have hwr := hw.1
  refine lv_iload hx hb d_Law_law_978 (lv_at hl 1 rfl) ?_
  refine lv_icmp_eq (tgt := 985) hx hb d_Law_law_980 (by decide) (fun c9 => ?_) (fun c9 => absurd (by decide) c9)
  refine lv_iload hx hb d_Law_law_985 (lv_at hl 1 rfl) ?_
  refine lv_if_ne (tgt := 1001) hx hb d_Law_law_987 (by decide) (fun c9 => ?_) (fun c9 => absurd c9 (by decide))
  refine lv_goto (tgt := 1029) hx hb d_Law_law_1001 (by decide) ?_
  exact kk ad N _ _ _ _ _ (fun _ => Nat.le_refl _) hwf hwr hcl hP hD hS (lv_sub hl [2, 3, 4, 5, 6] rfl) (by omega) (by omega)
theorem d_Law_law_1004 : decode code 1004 = .ok (.aload_n 1, 1) := by decide +kernel
theorem d_Law_law_1005 : decode code 1005 = .ok (.aload_n 0, 1) := by decide +kernel
theorem d_Law_law_1006 : decode code 1006 = .ok (.iload 4, 2) := by decide +kernel
theorem d_Law_law_1008 : decode code 1008 = .ok (.iconst 1, 1) := by decide +kernel
theorem d_Law_law_1009 : decode code 1009 = .ok (.iadd, 1) := by decide +kernel
theorem d_Law_law_1010 : decode code 1010 = .ok (.iaload, 1) := by decide +kernel
theorem d_Law_law_1011 : decode code 1011 = .ok (.invokevirtual 121, 3) := by decide +kernel
theorem u_795 : Cond.methodLink "FilterGuardLaw" 121 ⟨"FilterGuard", "count", "(I)I"⟩ ∈ fg_g := fg_in (List.mem_of_getElem? (i := 795) (by decide +kernel)) rfl
theorem u_798 : Cond.code ⟨"FilterGuard", "count", "(I)I"⟩ prog_1_method_18_code 2 (some .int) ∈ fg_g := fg_in (List.mem_of_getElem? (i := 798) (by decide +kernel)) rfl
theorem u_796 : Cond.instanceMethod ⟨"FilterGuard", "count", "(I)I"⟩ ∈ fg_g := fg_in (List.mem_of_getElem? (i := 796) (by decide +kernel)) rfl
theorem u_797 : Cond.selects "FilterGuard" ⟨"FilterGuard", "count", "(I)I"⟩ ⟨"FilterGuard", "count", "(I)I"⟩ ∈ fg_g := fg_in (List.mem_of_getElem? (i := 797) (by decide +kernel)) rfl
theorem d_Law_law_1014 : decode code 1014 = .ok (.aload_n 2, 1) := by decide +kernel
theorem d_Law_law_1015 : decode code 1015 = .ok (.aload_n 0, 1) := by decide +kernel
theorem d_Law_law_1016 : decode code 1016 = .ok (.iload 4, 2) := by decide +kernel
theorem d_Law_law_1018 : decode code 1018 = .ok (.iconst 1, 1) := by decide +kernel
theorem d_Law_law_1019 : decode code 1019 = .ok (.iadd, 1) := by decide +kernel
theorem d_Law_law_1020 : decode code 1020 = .ok (.iaload, 1) := by decide +kernel
theorem d_Law_law_1021 : decode code 1021 = .ok (.invokevirtual 124, 3) := by decide +kernel
theorem u_2523 : Cond.methodLink "FilterGuardLaw" 124 ⟨"FilterGuardModel", "count", "(I)I"⟩ ∈ fg_g := fg_in (List.mem_of_getElem? (i := 2523) (by decide +kernel)) rfl
theorem u_2526 : Cond.code ⟨"FilterGuardModel", "count", "(I)I"⟩ prog_14_method_140_code 5 (some .int) ∈ fg_g := fg_in (List.mem_of_getElem? (i := 2526) (by decide +kernel)) rfl
theorem u_2524 : Cond.instanceMethod ⟨"FilterGuardModel", "count", "(I)I"⟩ ∈ fg_g := fg_in (List.mem_of_getElem? (i := 2524) (by decide +kernel)) rfl
theorem u_2525 : Cond.selects "FilterGuardModel" ⟨"FilterGuardModel", "count", "(I)I"⟩ ⟨"FilterGuardModel", "count", "(I)I"⟩ ∈ fg_g := fg_in (List.mem_of_getElem? (i := 2525) (by decide +kernel)) rfl
theorem d_Law_law_1024 : decode code 1024 = .ok (.if_icmp .eq 5, 3) := by decide +kernel
set_option maxHeartbeats 4000000 in
set_option maxRecDepth 100000 in
theorem law_15 {p : Program} {l : Launch} {e : Env} {s : Jvm.State} {m : MethodId} {below : List Frame} {meth : Method} {c : Code} {b L i : Nat} {xs : Nat → Int32} {A : Nat → Prop} {D : va_G} {ca : Nat → ClassId} {ad bd : Nat → Nat → Nat} {N NR : Nat → Nat} {M M1 R R1 : me_M} {jo : Nat} {H : Heap} {locs : List Loc} {ls : Array Slot} {cells slots : Nat} {Q : Jvm.State → Prop} {r : Int32} (hl9 : l.stackTraces = false) (hx : p.tables.exec = Jvm.exec) (hb : c.code = code) (hml : c.maxLocals = 8) (hown : s.vm.findClass "FilterGuardLaw" = some m.cls) (hts : ∀ w ∈ fg_g, w.before #[Value.ref b] s = true) (hX : fg_X s) (hz : fg_Z A s s.heap) (hy : fg_Y s) (hXs : va_X b L xs s s.heap) (hbl : b < s.heap.size) (hbA : ¬ A b) (hA : ∀ q : Nat, s.heap.size ≤ q → A q) (hK : va_K D classes (me_T ca) s) (hL : L ≤ 3072) (hi : i + 6 ≤ L) (hwf : me_wf N M) (hwr : me_wf NR R) (hcl : me_cN N ≤ me_CL ∧ me_sN N ≤ me_SL) (h00 : 0 < N 0) (h10 : 0 < NR 1) (hjo : jo < N 16) (hP : va_P D classes (me_W ad ca M ++ me_W bd ca R) H) (hD : va_D A (me_W ad ca M ++ me_W bd ca R)) (hS : va_S A s.heap H locs) (hl : lv_has ls 8 [(4, .int (nI i)), (3, .ref (ad 16 jo)), (2, .ref (bd 1 0)), (1, .ref (ad 0 0)), (0, .ref b)]) (hfit : cells + (me_CL - me_cN N) + 8 ≤ 601024 ∧ slots + (me_SL - me_sN N) + 48 ≤ 7293034) (e1 : f_G_count M 0 (xs (i + 1)) = some (M1, r)) (e2 : f_M_count R 0 (xs (i + 1)) = some (R1, r)) (kk : ∀ (ad1 : Nat → Nat → Nat) (N1 : Nat → Nat) (H1 : Heap) (locs1 : List Loc) (ls1 : Array Slot) (cells1 slots1 : Nat), (∀ a, N a ≤ N1 a) → me_wf N1 M1 → me_wf NR R1 → (me_cN N1 ≤ me_CL ∧ me_sN N1 ≤ me_SL) → va_P D classes (me_W ad1 ca M1 ++ me_W bd ca R1) H1 → va_D A (me_W ad1 ca M1 ++ me_W bd ca R1) → va_S A s.heap H1 locs1 → lv_has ls1 8 [(4, .int (nI i)), (3, .ref (ad1 16 jo)), (2, .ref (bd 1 0)), (1, .ref (ad1 0 0)), (0, .ref b)] → cells1 + me_cN N ≤ cells + me_cN N1 + 1 → slots1 + me_sN N ≤ slots + me_sN N1 + 6 → W p l e room_1 s m #[Value.ref b] below meth c H1 locs1 cells1 slots1 Q (F0 m 1029 ls1 [])) : W p l e room_1 s m #[Value.ref b] below meth c H locs cells slots Q (F0 m 1004 ls []) := by
  refine lv_aload_n hx hb d_Law_law_1004 rfl (lv_at hl 3 rfl) ?_
  refine lv_aload_n hx hb d_Law_law_1005 rfl (lv_at hl 4 rfl) ?_
  refine lv_iload hx hb d_Law_law_1006 (lv_at hl 0 rfl) ?_
  refine lv_iconst (v := 1) hx hb d_Law_law_1008 (by decide) ?_
  refine lv_iadd hx hb d_Law_law_1009 ?_
  refine fg_topi (y := nI (i + 1)) (nI_add i 1) ?_
  refine va_sld hx hb hXs hbl hbA hS (nI_in (c := i + 1) (N := L) (by omega) (by omega)) d_Law_law_1010 ?_
  refine fg_topi (y := xs (i + 1)) (by rw [nI_clamp (by omega)]) ?_
  refine lw_Mi (r0 := r) (M1 := M1) (me_runV (C := "FilterGuard") (As := [.int (xs (i + 1))]) (rest := []) ⟨hx, hb, hml, hown, hts⟩ (c_G_count l D ad ca N M M1 r 0 (xs (i + 1)) e1 hwf h00 _) rfl (by show fg_nm y_G_count 1; decide +kernel) u_795 u_796 u_797 u_181 u_798 ⟨Nat.le_of_ble_eq_true rfl, Nat.le_of_ble_eq_true rfl⟩ hX hz.2 hK (fk_Pl hP) (fk_Dl hD) hwf hS hA h00 (by decide) rfl rfl rfl hl.1 (Nat.le_of_ble_eq_true rfl) d_Law_law_1011 (by exact lw_f0 hfit)) hP hD hK hS hA (fun H locs hw hP hD hS => ?_)
  refine W.widen (k := cells) (n := slots) (Nat.le_refl _) (Nat.le_refl _) ?_
  have hwf := hw.1
  refine lv_aload_n hx hb d_Law_law_1014 rfl (lv_at hl 2 rfl) ?_
  refine lv_aload_n hx hb d_Law_law_1015 rfl (lv_at hl 4 rfl) ?_
  refine lv_iload hx hb d_Law_law_1016 (lv_at hl 0 rfl) ?_
  refine lv_iconst (v := 1) hx hb d_Law_law_1018 (by decide) ?_
  refine lv_iadd hx hb d_Law_law_1019 ?_
  refine fg_topi (y := nI (i + 1)) (nI_add i 1) ?_
  refine va_sld hx hb hXs hbl hbA hS (nI_in (c := i + 1) (N := L) (by omega) (by omega)) d_Law_law_1020 ?_
  refine fg_topi (y := xs (i + 1)) (by rw [nI_clamp (by omega)]) ?_
  refine lw_Ri (r0 := r) (R1 := R1) (me_runV (C := "FilterGuardModel") (As := [.int (xs (i + 1))]) (rest := [.int r]) ⟨hx, hb, hml, hown, hts⟩ (c_M_count l D bd ca NR R R1 r 0 (xs (i + 1)) e2 hwr h10 _) rfl (by show fg_nm y_M_count 1; decide +kernel) u_2523 u_2524 u_2525 u_192 u_2526 ⟨Nat.le_of_ble_eq_true rfl, Nat.le_of_ble_eq_true rfl⟩ hX hz.2 hK (fk_Pr hP) (fk_Dr hD) hwr hS hA h10 (by decide) rfl rfl rfl hl.1 (Nat.le_of_ble_eq_true rfl) d_Law_law_1021 (by exact lw_f0 hfit)) hP hD hK hS hA (fun H locs hw hP hD hS => ?_)
  refine W.widen (k := cells) (n := slots) (Nat.le_refl _) (Nat.le_refl _) ?_
  have hwr := hw.1
  refine lv_icmp_eq (tgt := 1029) hx hb d_Law_law_1024 (by decide) (fun c9 => ?_) (fun c9 => absurd rfl c9)
  exact kk ad N _ _ _ _ _ (fun _ => Nat.le_refl _) hwf hwr hcl hP hD hS (lv_sub hl [0, 1, 2, 3, 4] rfl) (by omega) (by omega)
