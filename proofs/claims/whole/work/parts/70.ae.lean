theorem d_M_quotient_75 : decode prog_14_method_22_code 75 = .ok (.lsub, 1) := by decide +kernel
theorem d_M_quotient_76 : decode prog_14_method_22_code 76 = .ok (.lstore 6, 2) := by decide +kernel
theorem d_M_quotient_78 : decode prog_14_method_22_code 78 = .ok (.lload 4, 2) := by decide +kernel
theorem d_M_quotient_80 : decode prog_14_method_22_code 80 = .ok (.iload 10, 2) := by decide +kernel
theorem d_M_quotient_82 : decode prog_14_method_22_code 82 = .ok (.ifCond .eq 10, 3) := by decide +kernel
theorem d_M_quotient_92 : decode prog_14_method_22_code 92 = .ok (.lconst 0, 1) := by decide +kernel
theorem d_M_quotient_93 : decode prog_14_method_22_code 93 = .ok (.lor, 1) := by decide +kernel
theorem d_M_quotient_94 : decode prog_14_method_22_code 94 = .ok (.lstore 4, 2) := by decide +kernel
theorem d_M_quotient_96 : decode prog_14_method_22_code 96 = .ok (.iinc 8 (-1), 3) := by decide +kernel
theorem d_M_quotient_99 : decode prog_14_method_22_code 99 = .ok (.goto (-89), 3) := by decide +kernel
theorem d_M_quotient_85 : decode prog_14_method_22_code 85 = .ok (.lconst 1, 1) := by decide +kernel
theorem d_M_quotient_86 : decode prog_14_method_22_code 86 = .ok (.iload 8, 2) := by decide +kernel
theorem d_M_quotient_88 : decode prog_14_method_22_code 88 = .ok (.lshl, 1) := by decide +kernel
theorem d_M_quotient_89 : decode prog_14_method_22_code 89 = .ok (.goto 4, 3) := by decide +kernel
theorem d_M_quotient_61 : decode prog_14_method_22_code 61 = .ok (.istore 10, 2) := by decide +kernel
theorem d_M_quotient_63 : decode prog_14_method_22_code 63 = .ok (.lload 6, 2) := by decide +kernel
theorem d_M_quotient_65 : decode prog_14_method_22_code 65 = .ok (.iload 10, 2) := by decide +kernel
theorem d_M_quotient_67 : decode prog_14_method_22_code 67 = .ok (.ifCond .eq 7, 3) := by decide +kernel
theorem d_M_quotient_74 : decode prog_14_method_22_code 74 = .ok (.lconst 0, 1) := by decide +kernel
theorem d_M_quotient_70 : decode prog_14_method_22_code 70 = .ok (.lload_n 2, 1) := by decide +kernel
theorem d_M_quotient_71 : decode prog_14_method_22_code 71 = .ok (.goto 4, 3) := by decide +kernel
theorem d_M_quotient_56 : decode prog_14_method_22_code 56 = .ok (.iconst 1, 1) := by decide +kernel
theorem d_M_quotient_57 : decode prog_14_method_22_code 57 = .ok (.goto 4, 3) := by decide +kernel
theorem d_M_quotient_27 : decode prog_14_method_22_code 27 = .ok (.istore 9, 2) := by decide +kernel
theorem d_M_quotient_29 : decode prog_14_method_22_code 29 = .ok (.lload 6, 2) := by decide +kernel
theorem d_M_quotient_31 : decode prog_14_method_22_code 31 = .ok (.iconst 1, 1) := by decide +kernel
theorem d_M_quotient_32 : decode prog_14_method_22_code 32 = .ok (.lshl, 1) := by decide +kernel
theorem d_M_quotient_33 : decode prog_14_method_22_code 33 = .ok (.lload_n 0, 1) := by decide +kernel
theorem d_M_quotient_34 : decode prog_14_method_22_code 34 = .ok (.iload 8, 2) := by decide +kernel
theorem d_M_quotient_36 : decode prog_14_method_22_code 36 = .ok (.lshr, 1) := by decide +kernel
theorem d_M_quotient_37 : decode prog_14_method_22_code 37 = .ok (.lconst 1, 1) := by decide +kernel
theorem d_M_quotient_38 : decode prog_14_method_22_code 38 = .ok (.land, 1) := by decide +kernel
theorem d_M_quotient_39 : decode prog_14_method_22_code 39 = .ok (.lor, 1) := by decide +kernel
theorem d_M_quotient_40 : decode prog_14_method_22_code 40 = .ok (.lstore 6, 2) := by decide +kernel
theorem d_M_quotient_42 : decode prog_14_method_22_code 42 = .ok (.iload 9, 2) := by decide +kernel
theorem d_M_quotient_44 : decode prog_14_method_22_code 44 = .ok (.ifCond .ne 12, 3) := by decide +kernel
theorem d_M_quotient_47 : decode prog_14_method_22_code 47 = .ok (.lload 6, 2) := by decide +kernel
theorem d_M_quotient_49 : decode prog_14_method_22_code 49 = .ok (.lload_n 2, 1) := by decide +kernel
theorem d_M_quotient_50 : decode prog_14_method_22_code 50 = .ok (.invokestatic 158, 3) := by decide +kernel
theorem d_M_quotient_53 : decode prog_14_method_22_code 53 = .ok (.ifCond .ne 7, 3) := by decide +kernel
theorem d_M_quotient_60 : decode prog_14_method_22_code 60 = .ok (.iconst 0, 1) := by decide +kernel
theorem d_M_quotient_10 : decode prog_14_method_22_code 10 = .ok (.iload 8, 2) := by decide +kernel
theorem d_M_quotient_12 : decode prog_14_method_22_code 12 = .ok (.ifCond .lt 90, 3) := by decide +kernel
theorem d_M_quotient_102 : decode prog_14_method_22_code 102 = .ok (.lload 4, 2) := by decide +kernel
theorem d_M_quotient_104 : decode prog_14_method_22_code 104 = .ok (.lreturn, 1) := by decide +kernel
theorem d_M_quotient_15 : decode prog_14_method_22_code 15 = .ok (.lload 6, 2) := by decide +kernel
theorem d_M_quotient_17 : decode prog_14_method_22_code 17 = .ok (.lconst 0, 1) := by decide +kernel
theorem d_M_quotient_18 : decode prog_14_method_22_code 18 = .ok (.lcmp, 1) := by decide +kernel
theorem d_M_quotient_19 : decode prog_14_method_22_code 19 = .ok (.ifCond .ge 7, 3) := by decide +kernel
theorem d_M_quotient_26 : decode prog_14_method_22_code 26 = .ok (.iconst 0, 1) := by decide +kernel
theorem d_M_quotient_22 : decode prog_14_method_22_code 22 = .ok (.iconst 1, 1) := by decide +kernel
theorem d_M_quotient_23 : decode prog_14_method_22_code 23 = .ok (.goto 4, 3) := by decide +kernel
theorem d_M_quotient_0 : decode prog_14_method_22_code 0 = .ok (.lconst 0, 1) := by decide +kernel
theorem d_M_quotient_1 : decode prog_14_method_22_code 1 = .ok (.lstore 4, 2) := by decide +kernel
theorem d_M_quotient_3 : decode prog_14_method_22_code 3 = .ok (.lconst 0, 1) := by decide +kernel
theorem d_M_quotient_4 : decode prog_14_method_22_code 4 = .ok (.lstore 6, 2) := by decide +kernel
theorem d_M_quotient_6 : decode prog_14_method_22_code 6 = .ok (.bipush 63, 2) := by decide +kernel
theorem d_M_quotient_8 : decode prog_14_method_22_code 8 = .ok (.istore 8, 2) := by decide +kernel
abbrev y_M_quotient : MethodName := ⟨"FilterGuardModel", "quotient", "(JJ)J"⟩
def f_M_quotient_b75 (k10 : Int64 → Int64 → Int32 → Option Int64) (x0 : Int64) (x2 : Int64) (y4 : Int64) (y8 : Int32) (y10 : Int32) (s0 : Int64) (s1 : Int64) : Option Int64 := st (s1 - s0) (fun (v1 : Int64) => (if y10 = 0 then st (y4 ||| 0) (fun (v3 : Int64) => k10 v3 v1 (y8 + (-1))) else st (y4 ||| (jlshl (1 : Int64) y8)) (fun (v4 : Int64) => k10 v4 v1 (y8 + (-1)))))
def f_M_quotient_b61 (k10 : Int64 → Int64 → Int32 → Option Int64) (x0 : Int64) (x2 : Int64) (y4 : Int64) (y6 : Int64) (y8 : Int32) (s0 : Int32) : Option Int64 := (if s0 = 0 then f_M_quotient_b75 k10 x0 x2 y4 y8 s0 (0 : Int64) y6 else f_M_quotient_b75 k10 x0 x2 y4 y8 s0 x2 y6)
def f_M_quotient_b56 (k10 : Int64 → Int64 → Int32 → Option Int64) (x0 : Int64) (x2 : Int64) (y4 : Int64) (y6 : Int64) (y8 : Int32) : Option Int64 := f_M_quotient_b61 k10 x0 x2 y4 y6 y8 (1 : Int32)
def f_M_quotient_b27 (k10 : Int64 → Int64 → Int32 → Option Int64) (x0 : Int64) (x2 : Int64) (y4 : Int64) (y6 : Int64) (y8 : Int32) (s0 : Int32) : Option Int64 := st ((jlshl y6 (1 : Int32)) ||| ((jlshr x0 y8) &&& 1)) (fun (v6 : Int64) => (if s0 = 0 then bd (f_M_below v6 x2) (fun (r8 : Int32) => (if r8 = 0 then f_M_quotient_b56 k10 x0 x2 y4 v6 y8 else f_M_quotient_b61 k10 x0 x2 y4 v6 y8 (0 : Int32))) else f_M_quotient_b56 k10 x0 x2 y4 v6 y8))
def f_M_quotient_l10 (x0 : Int64) (x2 : Int64) : Nat → Int64 → Int64 → Int32 → Option Int64
  | 0, _, _, _ => none
  | fu + 1, y4, y6, y8 => (if y8 < 0 then some y4 else (if y6 < 0 then f_M_quotient_b27 (f_M_quotient_l10 x0 x2 fu) x0 x2 y4 y6 y8 (1 : Int32) else f_M_quotient_b27 (f_M_quotient_l10 x0 x2 fu) x0 x2 y4 y6 y8 (0 : Int32)))
def f_M_quotient (x0 : Int64) (x2 : Int64) : Option Int64 := f_M_quotient_l10 x0 x2 fuel (0 : Int64) (0 : Int64) (63 : Int32)
def rm_M_quotient : Room := { frames := 2, cells := 0, slots := 0, locals := 43 }
abbrev q_M_quotient (D : va_G) (RZ : Int64) (A : Nat → Prop) : Array Value → Jvm.State → Outcome → Jvm.State → Prop := va_Ql (fun r (_ : Unit) => r = RZ ∧ True) (fg_B D A (fun _ => []) (fun _ => [])) A
set_option maxHeartbeats 4000000 in
set_option maxRecDepth 100000 in
theorem c_M_quotient (l : Launch) (D : va_G) (RZ : Int64) (x0 : Int64) (x2 : Int64) (h : f_M_quotient x0 x2 = (some RZ)) (sz : Nat) : Met l y_M_quotient (fg_w y_M_quotient prog_14_method_22_code 11 (some .long)) rm_M_quotient (va_Pc [.long x0, .long x2] (fg_P D [] [] sz)) (q_M_quotient D RZ (va_A [] sz)) rm_M_quotient.cells rm_M_quotient.slots (va_A [] sz) := by
  refine fg_enter (fun A => q_M_quotient D RZ A) (by decide +kernel) (Nat.le_of_ble_eq_true rfl) ?_
  intro p e s m below meth c ls A hx hb hml hown hts hr hlocks hin hP hK hD hS hA hX hl
  have hl : lv_has ls 11 [(0, .long x0), (2, .long x2)] := hl
  unfold f_M_quotient at h
  have b_75 : ∀ (k10 : Int64 → Int64 → Int32 → Option Int64) (hk10 : ∀ (y4 : Int64) (y6 : Int64) (y8 : Int32) (H : Heap) (locs : List Loc) (ls : Array Slot), k10 y4 y6 y8 = (some RZ) → va_S A s.heap H locs → lv_has ls 11 [(0, .long x0), (2, .long x2), (4, .long y4), (6, .long y6), (8, .int y8)] → W p l e rm_M_quotient s m [.long x0, .long x2].toArray below meth c H locs 0 0 (MQ below (q_M_quotient D RZ A) [.long x0, .long x2].toArray s rm_M_quotient.cells rm_M_quotient.slots A) (F0 m 10 ls [])), ∀ (y4 : Int64) (y8 : Int32) (y10 : Int32) (s0 : Int64) (s1 : Int64) (H : Heap) (locs : List Loc) (ls : Array Slot), f_M_quotient_b75 k10 x0 x2 y4 y8 y10 s0 s1 = (some RZ) → (y10 = 1 ∨ y10 = 0) → va_S A s.heap H locs → lv_has ls 11 [(0, .long x0), (2, .long x2), (4, .long y4), (8, .int y8), (10, .int y10)] → W p l e rm_M_quotient s m [.long x0, .long x2].toArray below meth c H locs 0 0 (MQ below (q_M_quotient D RZ A) [.long x0, .long x2].toArray s rm_M_quotient.cells rm_M_quotient.slots A) (F0 m 75 ls [.long s0, .long s1]) := by
    intro k10 hk10 y4 y8 y10 s0 s1 H locs ls h zy10 hS hl
    unfold f_M_quotient_b75 at h
    refine lv_lsub hx hb d_M_quotient_75 ?_
    obtain ⟨v1, ev1, h⟩ := st_ob h
    refine fg_topl (y := v1) ev1.symm ?_
    refine lv_lstore (lv' := [(6, .long v1), (0, .long x0), (2, .long x2), (4, .long y4), (8, .int y8), (10, .int y10)]) hx hb d_M_quotient_76 hl (by decide) rfl (fun ls hl => ?_)
    refine lv_lload hx hb d_M_quotient_78 (lv_at hl 3 rfl) ?_
    refine lv_iload hx hb d_M_quotient_80 (lv_at hl 5 rfl) ?_
    refine lv_if_eq (tgt := 92) hx hb d_M_quotient_82 (by decide) (fun c2 => ?_) (fun c2 => ?_)
    · have h := if_t c2 h
      refine lv_lconst (v := 0) hx hb d_M_quotient_92 (by decide) ?_
      refine lv_lor hx hb d_M_quotient_93 ?_
      obtain ⟨v3, ev3, h⟩ := st_ob h
      refine fg_topl (y := v3) ev3.symm ?_
      refine lv_lstore (lv' := [(4, .long v3), (6, .long v1), (0, .long x0), (2, .long x2), (8, .int y8), (10, .int y10)]) hx hb d_M_quotient_94 hl (by decide) rfl (fun ls hl => ?_)
      refine lv_iinc (v := y8 + (-1)) (lv' := [(8, .int (y8 + (-1))), (4, .long v3), (6, .long v1), (0, .long x0), (2, .long x2), (10, .int y10)]) hx hb d_M_quotient_96 hl (k := 4) rfl (by rfl) (by decide) rfl (fun ls hl => ?_)
      refine lv_goto (tgt := 10) hx hb d_M_quotient_99 (by decide) ?_
      exact hk10 v3 v1 (y8 + (-1)) _ _ _ h hS (lv_sub hl [3, 4, 1, 2, 0] rfl)
    have h := if_f c2 h
    refine lv_lconst (v := 1) hx hb d_M_quotient_85 (by decide) ?_
    refine lv_iload hx hb d_M_quotient_86 (lv_at hl 4 rfl) ?_
    refine lv_lshl (v := jlshl (1 : Int64) y8) hx hb d_M_quotient_88 rfl ?_
    refine lv_goto (tgt := 93) hx hb d_M_quotient_89 (by decide) ?_
    refine lv_lor hx hb d_M_quotient_93 ?_
    obtain ⟨v4, ev4, h⟩ := st_ob h
    refine fg_topl (y := v4) ev4.symm ?_
    refine lv_lstore (lv' := [(4, .long v4), (6, .long v1), (0, .long x0), (2, .long x2), (8, .int y8), (10, .int y10)]) hx hb d_M_quotient_94 hl (by decide) rfl (fun ls hl => ?_)
    refine lv_iinc (v := y8 + (-1)) (lv' := [(8, .int (y8 + (-1))), (4, .long v4), (6, .long v1), (0, .long x0), (2, .long x2), (10, .int y10)]) hx hb d_M_quotient_96 hl (k := 4) rfl (by rfl) (by decide) rfl (fun ls hl => ?_)
    refine lv_goto (tgt := 10) hx hb d_M_quotient_99 (by decide) ?_
    exact hk10 v4 v1 (y8 + (-1)) _ _ _ h hS (lv_sub hl [3, 4, 1, 2, 0] rfl)
  have b_61 : ∀ (k10 : Int64 → Int64 → Int32 → Option Int64) (hk10 : ∀ (y4 : Int64) (y6 : Int64) (y8 : Int32) (H : Heap) (locs : List Loc) (ls : Array Slot), k10 y4 y6 y8 = (some RZ) → va_S A s.heap H locs → lv_has ls 11 [(0, .long x0), (2, .long x2), (4, .long y4), (6, .long y6), (8, .int y8)] → W p l e rm_M_quotient s m [.long x0, .long x2].toArray below meth c H locs 0 0 (MQ below (q_M_quotient D RZ A) [.long x0, .long x2].toArray s rm_M_quotient.cells rm_M_quotient.slots A) (F0 m 10 ls [])), ∀ (y4 : Int64) (y6 : Int64) (y8 : Int32) (s0 : Int32) (H : Heap) (locs : List Loc) (ls : Array Slot), f_M_quotient_b61 k10 x0 x2 y4 y6 y8 s0 = (some RZ) → (s0 = 1 ∨ s0 = 0) → va_S A s.heap H locs → lv_has ls 11 [(0, .long x0), (2, .long x2), (4, .long y4), (6, .long y6), (8, .int y8)] → W p l e rm_M_quotient s m [.long x0, .long x2].toArray below meth c H locs 0 0 (MQ below (q_M_quotient D RZ A) [.long x0, .long x2].toArray s rm_M_quotient.cells rm_M_quotient.slots A) (F0 m 61 ls [.int s0]) := by
    intro k10 hk10 y4 y6 y8 s0 H locs ls h zs0 hS hl
    unfold f_M_quotient_b61 at h
    refine lv_istore (lv' := [(10, .int s0), (0, .long x0), (2, .long x2), (4, .long y4), (6, .long y6), (8, .int y8)]) hx hb d_M_quotient_61 hl (by decide) rfl (fun ls hl => ?_)
    refine lv_lload hx hb d_M_quotient_63 (lv_at hl 4 rfl) ?_
    refine lv_iload hx hb d_M_quotient_65 (lv_at hl 0 rfl) ?_
    refine lv_if_eq (tgt := 74) hx hb d_M_quotient_67 (by decide) (fun c5 => ?_) (fun c5 => ?_)
    · have h := if_t c5 h
      refine lv_lconst (v := 0) hx hb d_M_quotient_74 (by decide) ?_
      exact b_75 _ hk10 y4 y8 s0 (0 : Int64) y6 _ _ _ h zs0 hS (lv_sub hl [1, 2, 3, 5, 0] rfl)
    have h := if_f c5 h
    refine lv_lload_n hx hb d_M_quotient_70 rfl (lv_at hl 2 rfl) ?_
    refine lv_goto (tgt := 75) hx hb d_M_quotient_71 (by decide) ?_
    exact b_75 _ hk10 y4 y8 s0 x2 y6 _ _ _ h zs0 hS (lv_sub hl [1, 2, 3, 5, 0] rfl)
  have b_56 : ∀ (k10 : Int64 → Int64 → Int32 → Option Int64) (hk10 : ∀ (y4 : Int64) (y6 : Int64) (y8 : Int32) (H : Heap) (locs : List Loc) (ls : Array Slot), k10 y4 y6 y8 = (some RZ) → va_S A s.heap H locs → lv_has ls 11 [(0, .long x0), (2, .long x2), (4, .long y4), (6, .long y6), (8, .int y8)] → W p l e rm_M_quotient s m [.long x0, .long x2].toArray below meth c H locs 0 0 (MQ below (q_M_quotient D RZ A) [.long x0, .long x2].toArray s rm_M_quotient.cells rm_M_quotient.slots A) (F0 m 10 ls [])), ∀ (y4 : Int64) (y6 : Int64) (y8 : Int32) (H : Heap) (locs : List Loc) (ls : Array Slot), f_M_quotient_b56 k10 x0 x2 y4 y6 y8 = (some RZ) → va_S A s.heap H locs → lv_has ls 11 [(0, .long x0), (2, .long x2), (4, .long y4), (6, .long y6), (8, .int y8)] → W p l e rm_M_quotient s m [.long x0, .long x2].toArray below meth c H locs 0 0 (MQ below (q_M_quotient D RZ A) [.long x0, .long x2].toArray s rm_M_quotient.cells rm_M_quotient.slots A) (F0 m 56 ls []) := by
    intro k10 hk10 y4 y6 y8 H locs ls h hS hl
    unfold f_M_quotient_b56 at h
    refine lv_iconst (v := 1) hx hb d_M_quotient_56 (by decide) ?_
    refine lv_goto (tgt := 61) hx hb d_M_quotient_57 (by decide) ?_
    exact b_61 _ hk10 y4 y6 y8 (1 : Int32) _ _ _ h (by decide) hS (lv_sub hl [0, 1, 2, 3, 4] rfl)
  have b_27 : ∀ (k10 : Int64 → Int64 → Int32 → Option Int64) (hk10 : ∀ (y4 : Int64) (y6 : Int64) (y8 : Int32) (H : Heap) (locs : List Loc) (ls : Array Slot), k10 y4 y6 y8 = (some RZ) → va_S A s.heap H locs → lv_has ls 11 [(0, .long x0), (2, .long x2), (4, .long y4), (6, .long y6), (8, .int y8)] → W p l e rm_M_quotient s m [.long x0, .long x2].toArray below meth c H locs 0 0 (MQ below (q_M_quotient D RZ A) [.long x0, .long x2].toArray s rm_M_quotient.cells rm_M_quotient.slots A) (F0 m 10 ls [])), ∀ (y4 : Int64) (y6 : Int64) (y8 : Int32) (s0 : Int32) (H : Heap) (locs : List Loc) (ls : Array Slot), f_M_quotient_b27 k10 x0 x2 y4 y6 y8 s0 = (some RZ) → (s0 = 1 ∨ s0 = 0) → va_S A s.heap H locs → lv_has ls 11 [(0, .long x0), (2, .long x2), (4, .long y4), (6, .long y6), (8, .int y8)] → W p l e rm_M_quotient s m [.long x0, .long x2].toArray below meth c H locs 0 0 (MQ below (q_M_quotient D RZ A) [.long x0, .long x2].toArray s rm_M_quotient.cells rm_M_quotient.slots A) (F0 m 27 ls [.int s0]) := by
    intro k10 hk10 y4 y6 y8 s0 H locs ls h zs0 hS hl
    unfold f_M_quotient_b27 at h
    refine lv_istore (lv' := [(9, .int s0), (0, .long x0), (2, .long x2), (4, .long y4), (6, .long y6), (8, .int y8)]) hx hb d_M_quotient_27 hl (by decide) rfl (fun ls hl => ?_)
    refine lv_lload hx hb d_M_quotient_29 (lv_at hl 4 rfl) ?_
    refine lv_iconst (v := 1) hx hb d_M_quotient_31 (by decide) ?_
    refine lv_lshl (v := jlshl y6 (1 : Int32)) hx hb d_M_quotient_32 rfl ?_
    refine lv_lload_n hx hb d_M_quotient_33 rfl (lv_at hl 1 rfl) ?_
    refine lv_iload hx hb d_M_quotient_34 (lv_at hl 5 rfl) ?_
    refine lv_lshr (v := jlshr x0 y8) hx hb d_M_quotient_36 rfl ?_
    refine lv_lconst (v := 1) hx hb d_M_quotient_37 (by decide) ?_
    refine lv_land hx hb d_M_quotient_38 ?_
    refine lv_lor hx hb d_M_quotient_39 ?_
    obtain ⟨v6, ev6, h⟩ := st_ob h
    refine fg_topl (y := v6) ev6.symm ?_
    refine lv_lstore (lv' := [(6, .long v6), (9, .int s0), (0, .long x0), (2, .long x2), (4, .long y4), (8, .int y8)]) hx hb d_M_quotient_40 hl (by decide) rfl (fun ls hl => ?_)
    refine lv_iload hx hb d_M_quotient_42 (lv_at hl 1 rfl) ?_
    refine lv_if_ne (tgt := 56) hx hb d_M_quotient_44 (by decide) (fun c7 => ?_) (fun c7 => ?_)
    · have h := if_f c7 h
      exact b_56 _ hk10 y4 v6 y8 _ _ _ h hS (lv_sub hl [2, 3, 4, 0, 5] rfl)
    have h := if_t c7 h
    refine lv_lload hx hb d_M_quotient_47 (lv_at hl 0 rfl) ?_
    refine lv_lload_n hx hb d_M_quotient_49 rfl (lv_at hl 3 rfl) ?_
    obtain ⟨r8, er8, h⟩ := bd_ob h
    refine me_pani0 (r0 := r8) (fg_runS (wc := []) (tc := []) (A2 := A) (As := [.long v6, .long x2]) (rest := []) ⟨hx, hb, hml, hown, hts⟩ (c_M_below l D r8 v6 x2 er8 _) (by show fg_nm y_M_below 2; decide +kernel) u_2072 u_2073 u_192 u_2074 ⟨Nat.le_of_ble_eq_true rfl, Nat.le_of_ble_eq_true rfl⟩ hX me_P0 (hK.sub (tys' := []) [] rfl) me_D0 rfl hl.1 (Nat.le_of_ble_eq_true rfl) d_M_quotient_50 ⟨Nat.le_of_ble_eq_true rfl, Nat.le_of_ble_eq_true rfl⟩) hK hS hA rfl rfl (fun H locs hw hS => ?_)
    have zr8 := hw
    refine lv_if_ne (tgt := 60) hx hb d_M_quotient_53 (by decide) (fun c9 => ?_) (fun c9 => ?_)
    · have h := if_f c9 h
      refine lv_iconst (v := 0) hx hb d_M_quotient_60 (by decide) ?_
      exact b_61 _ hk10 y4 v6 y8 (0 : Int32) _ _ _ h (by decide) hS (lv_sub hl [2, 3, 4, 0, 5] rfl)
    have h := if_t c9 h
    exact b_56 _ hk10 y4 v6 y8 _ _ _ h hS (lv_sub hl [2, 3, 4, 0, 5] rfl)
  have b_10 : ∀ (fu : Nat), ∀ (y4 : Int64) (y6 : Int64) (y8 : Int32) (H : Heap) (locs : List Loc) (ls : Array Slot), f_M_quotient_l10 x0 x2 fu y4 y6 y8 = (some RZ) → va_S A s.heap H locs → lv_has ls 11 [(0, .long x0), (2, .long x2), (4, .long y4), (6, .long y6), (8, .int y8)] → W p l e rm_M_quotient s m [.long x0, .long x2].toArray below meth c H locs 0 0 (MQ below (q_M_quotient D RZ A) [.long x0, .long x2].toArray s rm_M_quotient.cells rm_M_quotient.slots A) (F0 m 10 ls []) := by
    intro fu
    induction fu with
    | zero =>
      intro y4 y6 y8 H locs ls h hS hl
      cases h
    | succ fu ih =>
      intro y4 y6 y8 H locs ls h hS hl
      unfold f_M_quotient_l10 at h
      refine lv_iload hx hb d_M_quotient_10 (lv_at hl 4 rfl) ?_
      refine lv_if_lt (tgt := 102) hx hb d_M_quotient_12 (by decide) (fun c10 => ?_) (fun c10 => ?_)
      · have h := if_t c10 h
        refine lv_lload hx hb d_M_quotient_102 (lv_at hl 2 rfl) ?_
        cases h
        exact fg_retl () hx hb hr hlocks ⟨rfl, trivial⟩ me_P0 (hK.sub (tys' := []) [] rfl) me_D0 hS (Nat.le_of_ble_eq_true rfl) (Nat.le_of_ble_eq_true rfl) d_M_quotient_104
      have h := if_f c10 h
      refine lv_lload hx hb d_M_quotient_15 (lv_at hl 3 rfl) ?_
      refine lv_lconst (v := 0) hx hb d_M_quotient_17 (by decide) ?_
      refine W.lcmp hx hb d_M_quotient_18 ?_
      refine lv_if_ge (tgt := 26) hx hb d_M_quotient_19 (by decide) (fun c11 => ?_) (fun c11 => ?_)
      · have h := if_f (Int64.not_lt.mpr ((lg_cmp_ge _ _).mp c11)) h
        refine lv_iconst (v := 0) hx hb d_M_quotient_26 (by decide) ?_
        exact b_27 _ ih y4 y6 y8 (0 : Int32) _ _ _ h (by decide) hS (lv_sub hl [0, 1, 2, 3, 4] rfl)
      have h := if_t (Int64.not_le.mp (fun z => c11 ((lg_cmp_ge _ _).mpr z))) h
      refine lv_iconst (v := 1) hx hb d_M_quotient_22 (by decide) ?_
      refine lv_goto (tgt := 27) hx hb d_M_quotient_23 (by decide) ?_
      exact b_27 _ ih y4 y6 y8 (1 : Int32) _ _ _ h (by decide) hS (lv_sub hl [0, 1, 2, 3, 4] rfl)
  refine lv_lconst (v := 0) hx hb d_M_quotient_0 (by decide) ?_
  refine lv_lstore (lv' := [(4, .long 0), (0, .long x0), (2, .long x2)]) hx hb d_M_quotient_1 hl (by decide) rfl (fun ls hl => ?_)
  refine lv_lconst (v := 0) hx hb d_M_quotient_3 (by decide) ?_
  refine lv_lstore (lv' := [(6, .long 0), (4, .long 0), (0, .long x0), (2, .long x2)]) hx hb d_M_quotient_4 hl (by decide) rfl (fun ls hl => ?_)
  refine lv_bipush (v := 63) hx hb d_M_quotient_6 (by decide) ?_
  refine lv_istore (lv' := [(8, .int 63), (6, .long 0), (4, .long 0), (0, .long x0), (2, .long x2)]) hx hb d_M_quotient_8 hl (by decide) rfl (fun ls hl => ?_)
  exact b_10 _ (0 : Int64) (0 : Int64) (63 : Int32) _ _ _ h hS (lv_sub hl [3, 4, 2, 1, 0] rfl)
theorem d_M_divide_34 : decode prog_14_method_23_code 34 = .ok (.aload_n 0, 1) := by decide +kernel
theorem d_M_divide_35 : decode prog_14_method_23_code 35 = .ok (.sipush 30076, 3) := by decide +kernel
theorem d_M_divide_38 : decode prog_14_method_23_code 38 = .ok (.invokevirtual 192, 3) := by decide +kernel
theorem d_M_divide_41 : decode prog_14_method_23_code 41 = .ok (.ifCond .eq 60, 3) := by decide +kernel
theorem d_M_divide_101 : decode prog_14_method_23_code 101 = .ok (.aload_n 0, 1) := by decide +kernel
theorem d_M_divide_102 : decode prog_14_method_23_code 102 = .ok (.getfield 113, 3) := by decide +kernel
theorem d_M_divide_105 : decode prog_14_method_23_code 105 = .ok (.sipush 30077, 3) := by decide +kernel
theorem d_M_divide_108 : decode prog_14_method_23_code 108 = .ok (.aload_n 0, 1) := by decide +kernel
theorem d_M_divide_109 : decode prog_14_method_23_code 109 = .ok (.getfield 113, 3) := by decide +kernel
theorem d_M_divide_112 : decode prog_14_method_23_code 112 = .ok (.sipush 30075, 3) := by decide +kernel
theorem d_M_divide_115 : decode prog_14_method_23_code 115 = .ok (.laload, 1) := by decide +kernel
theorem d_M_divide_116 : decode prog_14_method_23_code 116 = .ok (.lastore, 1) := by decide +kernel
theorem d_M_divide_117 : decode prog_14_method_23_code 117 = .ok (.return_, 1) := by decide +kernel
theorem d_M_divide_44 : decode prog_14_method_23_code 44 = .ok (.aload_n 0, 1) := by decide +kernel
theorem d_M_divide_45 : decode prog_14_method_23_code 45 = .ok (.getfield 110, 3) := by decide +kernel
theorem d_M_divide_48 : decode prog_14_method_23_code 48 = .ok (.sipush 30077, 3) := by decide +kernel
theorem d_M_divide_51 : decode prog_14_method_23_code 51 = .ok (.aload_n 0, 1) := by decide +kernel
theorem d_M_divide_52 : decode prog_14_method_23_code 52 = .ok (.getfield 110, 3) := by decide +kernel
theorem d_M_divide_55 : decode prog_14_method_23_code 55 = .ok (.sipush 30075, 3) := by decide +kernel
theorem d_M_divide_58 : decode prog_14_method_23_code 58 = .ok (.laload, 1) := by decide +kernel
theorem d_M_divide_59 : decode prog_14_method_23_code 59 = .ok (.aload_n 0, 1) := by decide +kernel
theorem d_M_divide_60 : decode prog_14_method_23_code 60 = .ok (.getfield 104, 3) := by decide +kernel
theorem d_M_divide_63 : decode prog_14_method_23_code 63 = .ok (.sipush 30076, 3) := by decide +kernel
theorem d_M_divide_66 : decode prog_14_method_23_code 66 = .ok (.laload, 1) := by decide +kernel
theorem d_M_divide_67 : decode prog_14_method_23_code 67 = .ok (.invokestatic 205, 3) := by decide +kernel
theorem u_2348 : Cond.methodLink "FilterGuardModel" 205 ⟨"FilterGuardModel", "quotient", "(JJ)J"⟩ ∈ fg_g := fg_in (List.mem_of_getElem? (i := 2348) (by decide +kernel)) rfl
theorem u_2350 : Cond.code ⟨"FilterGuardModel", "quotient", "(JJ)J"⟩ prog_14_method_22_code 11 (some .long) ∈ fg_g := fg_in (List.mem_of_getElem? (i := 2350) (by decide +kernel)) rfl
theorem u_2349 : Cond.static ⟨"FilterGuardModel", "quotient", "(JJ)J"⟩ ∈ fg_g := fg_in (List.mem_of_getElem? (i := 2349) (by decide +kernel)) rfl
theorem d_M_divide_70 : decode prog_14_method_23_code 70 = .ok (.lastore, 1) := by decide +kernel
theorem d_M_divide_71 : decode prog_14_method_23_code 71 = .ok (.aload_n 0, 1) := by decide +kernel
theorem d_M_divide_72 : decode prog_14_method_23_code 72 = .ok (.getfield 113, 3) := by decide +kernel
theorem d_M_divide_75 : decode prog_14_method_23_code 75 = .ok (.sipush 30077, 3) := by decide +kernel
theorem d_M_divide_78 : decode prog_14_method_23_code 78 = .ok (.aload_n 0, 1) := by decide +kernel
theorem d_M_divide_79 : decode prog_14_method_23_code 79 = .ok (.getfield 113, 3) := by decide +kernel
theorem d_M_divide_82 : decode prog_14_method_23_code 82 = .ok (.sipush 30075, 3) := by decide +kernel
theorem d_M_divide_85 : decode prog_14_method_23_code 85 = .ok (.laload, 1) := by decide +kernel
theorem d_M_divide_86 : decode prog_14_method_23_code 86 = .ok (.aload_n 0, 1) := by decide +kernel
theorem d_M_divide_87 : decode prog_14_method_23_code 87 = .ok (.getfield 104, 3) := by decide +kernel
theorem d_M_divide_90 : decode prog_14_method_23_code 90 = .ok (.sipush 30076, 3) := by decide +kernel
theorem d_M_divide_93 : decode prog_14_method_23_code 93 = .ok (.laload, 1) := by decide +kernel
theorem d_M_divide_94 : decode prog_14_method_23_code 94 = .ok (.invokestatic 205, 3) := by decide +kernel
theorem d_M_divide_97 : decode prog_14_method_23_code 97 = .ok (.lastore, 1) := by decide +kernel
theorem d_M_divide_98 : decode prog_14_method_23_code 98 = .ok (.goto 19, 3) := by decide +kernel
theorem d_M_divide_0 : decode prog_14_method_23_code 0 = .ok (.aload_n 0, 1) := by decide +kernel
theorem d_M_divide_1 : decode prog_14_method_23_code 1 = .ok (.sipush 30076, 3) := by decide +kernel
theorem d_M_divide_4 : decode prog_14_method_23_code 4 = .ok (.invokevirtual 192, 3) := by decide +kernel
theorem d_M_divide_7 : decode prog_14_method_23_code 7 = .ok (.ifCond .eq 27, 3) := by decide +kernel
theorem d_M_divide_10 : decode prog_14_method_23_code 10 = .ok (.aload_n 0, 1) := by decide +kernel
theorem d_M_divide_11 : decode prog_14_method_23_code 11 = .ok (.getfield 104, 3) := by decide +kernel
theorem d_M_divide_14 : decode prog_14_method_23_code 14 = .ok (.sipush 30076, 3) := by decide +kernel
theorem d_M_divide_17 : decode prog_14_method_23_code 17 = .ok (.laload, 1) := by decide +kernel
theorem d_M_divide_18 : decode prog_14_method_23_code 18 = .ok (.lconst 0, 1) := by decide +kernel
theorem d_M_divide_19 : decode prog_14_method_23_code 19 = .ok (.lcmp, 1) := by decide +kernel
theorem d_M_divide_20 : decode prog_14_method_23_code 20 = .ok (.ifCond .ne 14, 3) := by decide +kernel
theorem d_M_divide_23 : decode prog_14_method_23_code 23 = .ok (.aload_n 0, 1) := by decide +kernel
theorem d_M_divide_24 : decode prog_14_method_23_code 24 = .ok (.sipush 30077, 3) := by decide +kernel
theorem d_M_divide_27 : decode prog_14_method_23_code 27 = .ok (.lconst 0, 1) := by decide +kernel
theorem d_M_divide_28 : decode prog_14_method_23_code 28 = .ok (.invokevirtual 195, 3) := by decide +kernel
theorem d_M_divide_31 : decode prog_14_method_23_code 31 = .ok (.goto 86, 3) := by decide +kernel
abbrev y_M_divide : MethodName := ⟨"FilterGuardModel", "divide", "()V"⟩
def f_M_divide_b34 (j0 : Nat) (M : me_M) : Option me_M := b2 (f_M_isExact M j0 (30076 : Int32)) (fun (M1 : me_M) (r2 : Int32) => (if r2 = 0 then bd (mR M 1 j0 55) (fun (j4 : Nat) => gd (30075 < mZ M 16 j4) (gd (30077 < mZ M 16 j4) (st (wL M1 16 j4 30077 (mL M1 16 j4 30075)) (fun (M8 : me_M) => some M8)))) else bd (mR M 1 j0 54) (fun (j9 : Nat) => gd (30075 < mZ M 16 j9) (bd (mR M 1 j0 52) (fun (j12 : Nat) => gd (30076 < mZ M 16 j12) (bd (f_M_quotient (mL M1 16 j9 30075) (mL M1 16 j12 30076)) (fun (r15 : Int64) => gd (30077 < mZ M 16 j9) (st (wL M1 16 j9 30077 r15) (fun (M17 : me_M) => bd (mR M 1 j0 55) (fun (j18 : Nat) => gd (30075 < mZ M 16 j18) (bd (f_M_quotient (mL M17 16 j18 30075) (mL M17 16 j12 30076)) (fun (r21 : Int64) => gd (30077 < mZ M 16 j18) (st (wL M17 16 j18 30077 r21) (fun (M23 : me_M) => some M23))))))))))))))
def f_M_divide (M0 : me_M) (j0 : Nat) : Option me_M := b2 (f_M_isExact M0 j0 (30076 : Int32)) (fun (M24 : me_M) (r25 : Int32) => (if r25 = 0 then f_M_divide_b34 j0 M24 else bd (mR M0 1 j0 52) (fun (j27 : Nat) => gd (30076 < mZ M0 16 j27) ((if (mL M24 16 j27 30076) = 0 then bd (f_M_setExact M24 j0 (30077 : Int32) (0 : Int64)) (fun (M31 : me_M) => some M31) else f_M_divide_b34 j0 M24)))))
def rm_M_divide : Room := { frames := 3, cells := 0, slots := 0, locals := 73 }
abbrev q_M_divide (D : va_G) (ad : Nat → Nat → Nat) (ca : Nat → ClassId) (N : Nat → Nat) (M0 MZ : me_M) (A : Nat → Prop) : Array Value → Jvm.State → Outcome → Jvm.State → Prop := va_Qv (fun (_ : Unit) => me_wf N MZ ∧ me_kp M0 MZ) (fg_B D A (fun _ => me_W ad ca MZ) (fun _ => [])) A
set_option maxHeartbeats 4000000 in
set_option maxRecDepth 100000 in
theorem c_M_divide (l : Launch) (D : va_G) (ad : Nat → Nat → Nat) (ca : Nat → ClassId) (N : Nat → Nat) (M0 MZ : me_M) (j0 : Nat) (h : f_M_divide M0 j0 = (some MZ)) (hwf : me_wf N M0) (hj0 : j0 < N 1) (sz : Nat) : Met l y_M_divide (fg_w y_M_divide prog_14_method_23_code 1 none) rm_M_divide (va_Pc [.ref (ad 1 j0)] (fz_P D (me_T ca) (me_W ad ca M0) sz)) (q_M_divide D ad ca N M0 MZ (va_A (me_W ad ca M0) sz)) rm_M_divide.cells rm_M_divide.slots (va_A (me_W ad ca M0) sz) := by
  refine fz_enter (fun A => q_M_divide D ad ca N M0 MZ A) (by decide +kernel) (Nat.le_of_ble_eq_true rfl) ?_
  intro p e s m below meth c ls A hx hb hml hown hts hr hlocks hin hP hK hD hS hA hX hl hz
  have hl : lv_has ls 1 [(0, .ref (ad 1 j0))] := hl
  unfold f_M_divide at h
  have hkp : me_kp M0 M0 := me_kp.rf
  have hkb := hkp
  have b_34 : ∀ (M : me_M) (H : Heap) (locs : List Loc) (ls : Array Slot), f_M_divide_b34 j0 M = (some MZ) → me_wf N M → me_kp M0 M → va_P D classes (me_W ad ca M) H → va_D A (me_W ad ca M) → va_S A s.heap H locs → lv_has ls 1 [(0, .ref (ad 1 j0))] → W p l e rm_M_divide s m [.ref (ad 1 j0)].toArray below meth c H locs 0 0 (MQ below (q_M_divide D ad ca N M0 MZ A) [.ref (ad 1 j0)].toArray s rm_M_divide.cells rm_M_divide.slots A) (F0 m 34 ls []) := by
    intro M H locs ls h hwf hkp hP hD hS hl
    unfold f_M_divide_b34 at h
    have hkb := hkp
    refine lv_aload_n hx hb d_M_divide_34 rfl (lv_at hl 0 rfl) ?_
    refine lv_sipush (v := 30076) hx hb d_M_divide_35 (by decide) ?_
    obtain ⟨M1, r2, eM1, h⟩ := b2_ob h
    refine me_theni0 (M1 := M1) (me_runV (C := "FilterGuardModel") (As := [.int 30076]) (rest := []) ⟨hx, hb, hml, hown, hts⟩ (c_M_isExact l D ad ca N M M1 r2 j0 (30076 : Int32) eM1 hwf hj0 _) rfl (by show fg_nm y_M_isExact 1; decide +kernel) u_2251 u_2253 u_136 u_192 u_2254 ⟨Nat.le_of_ble_eq_true rfl, Nat.le_of_ble_eq_true rfl⟩ hX hz hK hP hD hwf hS hA hj0 (by decide) rfl rfl rfl hl.1 (Nat.le_of_ble_eq_true rfl) d_M_divide_38 ⟨Nat.le_of_ble_eq_true rfl, Nat.le_of_ble_eq_true rfl⟩) hP hD hK hS hA rfl rfl (fun H locs hw hP hD hS => ?_)
    obtain ⟨hwf, hk9, zr2⟩ := hw
    have hkp := hkp.tr hk9
    refine lv_if_eq (tgt := 101) hx hb d_M_divide_41 (by decide) (fun c3 => ?_) (fun c3 => ?_)
    · have h := if_t c3 h
      refine lv_aload_n hx hb d_M_divide_101 rfl (lv_at hl 0 rfl) ?_
      refine g_M_55 hx hb hts hown hK hP hwf hj0 (hts _ u_1796) d_M_divide_102 ?_
      obtain ⟨j4, e5, h⟩ := bd_ob h
      have hj4 : j4 < N 16 := (hwf.2.1 1 j0 55 _ (kp_r hkb hkp e5) (by decide) hj0)
      refine me_opt (j := j4) (kp_r hkb hkp e5) ?_
      refine lv_sipush (v := 30077) hx hb d_M_divide_105 (by decide) ?_
      refine lv_aload_n hx hb d_M_divide_108 rfl (lv_at hl 0 rfl) ?_
      refine g_M_55 hx hb hts hown hK hP hwf hj0 (hts _ u_1796) d_M_divide_109 ?_
      refine me_opt (j := j4) (kp_r hkb hkp e5) ?_
      refine lv_sipush (v := 30075) hx hb d_M_divide_112 (by decide) ?_
      obtain ⟨g6, h⟩ := gd_ob h
      refine me_lald hx hb hK hP hwf hj4 (me_in (i := (30075 : Int32)) (k := 30075) (by decide) (by decide) (kp_c hkb.z hkp.z g6)) d_M_divide_115 ?_
      refine fg_topl (y := mL M1 16 j4 30075) (congrArg _ (by decide)) ?_
      obtain ⟨g7, h⟩ := gd_ob h
      obtain ⟨M8, eM8, h⟩ := st_ob h
      refine me_last (eM8.trans (by rw [show (30077 : Int32).toNatClampNeg = 30077 by decide])) hx hb hK hP hD hwf hS hj4 (me_in (i := (30077 : Int32)) (k := 30077) (by decide) (by decide) (kp_c hkb.z hkp.z g7)) d_M_divide_116 (fun H locs hP hD hwf hS => ?_)
      have hkp := kp_L eM8 hkp
      cases h
      exact fg_retv () hx hb hr hlocks ⟨hwf, hkp⟩ hP (hK.sub (tys' := []) [] rfl) hD hS (Nat.le_of_ble_eq_true rfl) (Nat.le_of_ble_eq_true rfl) d_M_divide_117
    have h := if_f c3 h
    refine lv_aload_n hx hb d_M_divide_44 rfl (lv_at hl 0 rfl) ?_
    refine g_M_54 hx hb hts hown hK hP hwf hj0 (hts _ u_1795) d_M_divide_45 ?_
    obtain ⟨j9, e10, h⟩ := bd_ob h
    have hj9 : j9 < N 16 := (hwf.2.1 1 j0 54 _ (kp_r hkb hkp e10) (by decide) hj0)
    refine me_opt (j := j9) (kp_r hkb hkp e10) ?_
    refine lv_sipush (v := 30077) hx hb d_M_divide_48 (by decide) ?_
    refine lv_aload_n hx hb d_M_divide_51 rfl (lv_at hl 0 rfl) ?_
    refine g_M_54 hx hb hts hown hK hP hwf hj0 (hts _ u_1795) d_M_divide_52 ?_
    refine me_opt (j := j9) (kp_r hkb hkp e10) ?_
    refine lv_sipush (v := 30075) hx hb d_M_divide_55 (by decide) ?_
    obtain ⟨g11, h⟩ := gd_ob h
    refine me_lald hx hb hK hP hwf hj9 (me_in (i := (30075 : Int32)) (k := 30075) (by decide) (by decide) (kp_c hkb.z hkp.z g11)) d_M_divide_58 ?_
    refine fg_topl (y := mL M1 16 j9 30075) (congrArg _ (by decide)) ?_
    refine lv_aload_n hx hb d_M_divide_59 rfl (lv_at hl 0 rfl) ?_
    refine g_M_52 hx hb hts hown hK hP hwf hj0 (hts _ u_1793) d_M_divide_60 ?_
    obtain ⟨j12, e13, h⟩ := bd_ob h
    have hj12 : j12 < N 16 := (hwf.2.1 1 j0 52 _ (kp_r hkb hkp e13) (by decide) hj0)
    refine me_opt (j := j12) (kp_r hkb hkp e13) ?_
    refine lv_sipush (v := 30076) hx hb d_M_divide_63 (by decide) ?_
    obtain ⟨g14, h⟩ := gd_ob h
    refine me_lald hx hb hK hP hwf hj12 (me_in (i := (30076 : Int32)) (k := 30076) (by decide) (by decide) (kp_c hkb.z hkp.z g14)) d_M_divide_66 ?_
    refine fg_topl (y := mL M1 16 j12 30076) (congrArg _ (by decide)) ?_
    obtain ⟨r15, er15, h⟩ := bd_ob h
    refine me_panl' (r0 := r15) (fg_runS (wc := []) (tc := []) (A2 := A) (As := [.long (mL M1 16 j9 30075), .long (mL M1 16 j12 30076)]) (rest := [.int 30077, .ref (ad 16 j9)]) ⟨hx, hb, hml, hown, hts⟩ (c_M_quotient l D r15 (mL M1 16 j9 30075) (mL M1 16 j12 30076) er15 _) (by show fg_nm y_M_quotient 2; decide +kernel) u_2348 u_2349 u_192 u_2350 ⟨Nat.le_of_ble_eq_true rfl, Nat.le_of_ble_eq_true rfl⟩ hX me_P0 (hK.sub (tys' := []) [] rfl) me_D0 rfl hl.1 (Nat.le_of_ble_eq_true rfl) d_M_divide_67 ⟨Nat.le_of_ble_eq_true rfl, Nat.le_of_ble_eq_true rfl⟩) hP hD hK hS hA rfl rfl (fun H locs hw hP hD hS => ?_)
    obtain ⟨g16, h⟩ := gd_ob h
    obtain ⟨M17, eM17, h⟩ := st_ob h
    refine me_last (eM17.trans (by rw [show (30077 : Int32).toNatClampNeg = 30077 by decide])) hx hb hK hP hD hwf hS hj9 (me_in (i := (30077 : Int32)) (k := 30077) (by decide) (by decide) (kp_c hkb.z hkp.z g16)) d_M_divide_70 (fun H locs hP hD hwf hS => ?_)
    have hkp := kp_L eM17 hkp
    refine lv_aload_n hx hb d_M_divide_71 rfl (lv_at hl 0 rfl) ?_
    refine g_M_55 hx hb hts hown hK hP hwf hj0 (hts _ u_1796) d_M_divide_72 ?_
    obtain ⟨j18, e19, h⟩ := bd_ob h
    have hj18 : j18 < N 16 := (hwf.2.1 1 j0 55 _ (kp_r hkb hkp e19) (by decide) hj0)
    refine me_opt (j := j18) (kp_r hkb hkp e19) ?_
    refine lv_sipush (v := 30077) hx hb d_M_divide_75 (by decide) ?_
    refine lv_aload_n hx hb d_M_divide_78 rfl (lv_at hl 0 rfl) ?_
    refine g_M_55 hx hb hts hown hK hP hwf hj0 (hts _ u_1796) d_M_divide_79 ?_
    refine me_opt (j := j18) (kp_r hkb hkp e19) ?_
    refine lv_sipush (v := 30075) hx hb d_M_divide_82 (by decide) ?_
    obtain ⟨g20, h⟩ := gd_ob h
    refine me_lald hx hb hK hP hwf hj18 (me_in (i := (30075 : Int32)) (k := 30075) (by decide) (by decide) (kp_c hkb.z hkp.z g20)) d_M_divide_85 ?_
    refine fg_topl (y := mL M17 16 j18 30075) (congrArg _ (by decide)) ?_
    refine lv_aload_n hx hb d_M_divide_86 rfl (lv_at hl 0 rfl) ?_
    refine g_M_52 hx hb hts hown hK hP hwf hj0 (hts _ u_1793) d_M_divide_87 ?_
    refine me_opt (j := j12) (kp_r hkb hkp e13) ?_
    refine lv_sipush (v := 30076) hx hb d_M_divide_90 (by decide) ?_
    refine me_lald hx hb hK hP hwf hj12 (me_in (i := (30076 : Int32)) (k := 30076) (by decide) (by decide) (kp_c hkb.z hkp.z g14)) d_M_divide_93 ?_
    refine fg_topl (y := mL M17 16 j12 30076) (congrArg _ (by decide)) ?_
    obtain ⟨r21, er21, h⟩ := bd_ob h
    refine me_panl' (r0 := r21) (fg_runS (wc := []) (tc := []) (A2 := A) (As := [.long (mL M17 16 j18 30075), .long (mL M17 16 j12 30076)]) (rest := [.int 30077, .ref (ad 16 j18)]) ⟨hx, hb, hml, hown, hts⟩ (c_M_quotient l D r21 (mL M17 16 j18 30075) (mL M17 16 j12 30076) er21 _) (by show fg_nm y_M_quotient 2; decide +kernel) u_2348 u_2349 u_192 u_2350 ⟨Nat.le_of_ble_eq_true rfl, Nat.le_of_ble_eq_true rfl⟩ hX me_P0 (hK.sub (tys' := []) [] rfl) me_D0 rfl hl.1 (Nat.le_of_ble_eq_true rfl) d_M_divide_94 ⟨Nat.le_of_ble_eq_true rfl, Nat.le_of_ble_eq_true rfl⟩) hP hD hK hS hA rfl rfl (fun H locs hw hP hD hS => ?_)
    obtain ⟨g22, h⟩ := gd_ob h
    obtain ⟨M23, eM23, h⟩ := st_ob h
    refine me_last (eM23.trans (by rw [show (30077 : Int32).toNatClampNeg = 30077 by decide])) hx hb hK hP hD hwf hS hj18 (me_in (i := (30077 : Int32)) (k := 30077) (by decide) (by decide) (kp_c hkb.z hkp.z g22)) d_M_divide_97 (fun H locs hP hD hwf hS => ?_)
    have hkp := kp_L eM23 hkp
    refine lv_goto (tgt := 117) hx hb d_M_divide_98 (by decide) ?_
    cases h
    exact fg_retv () hx hb hr hlocks ⟨hwf, hkp⟩ hP (hK.sub (tys' := []) [] rfl) hD hS (Nat.le_of_ble_eq_true rfl) (Nat.le_of_ble_eq_true rfl) d_M_divide_117
  refine lv_aload_n hx hb d_M_divide_0 rfl (lv_at hl 0 rfl) ?_
  refine lv_sipush (v := 30076) hx hb d_M_divide_1 (by decide) ?_
  obtain ⟨M24, r25, eM24, h⟩ := b2_ob h
  refine me_theni0 (M1 := M24) (me_runV (C := "FilterGuardModel") (As := [.int 30076]) (rest := []) ⟨hx, hb, hml, hown, hts⟩ (c_M_isExact l D ad ca N M0 M24 r25 j0 (30076 : Int32) eM24 hwf hj0 _) rfl (by show fg_nm y_M_isExact 1; decide +kernel) u_2251 u_2253 u_136 u_192 u_2254 ⟨Nat.le_of_ble_eq_true rfl, Nat.le_of_ble_eq_true rfl⟩ hX hz hK hP hD hwf hS hA hj0 (by decide) rfl rfl rfl hl.1 (Nat.le_of_ble_eq_true rfl) d_M_divide_4 ⟨Nat.le_of_ble_eq_true rfl, Nat.le_of_ble_eq_true rfl⟩) hP hD hK hS hA rfl rfl (fun H locs hw hP hD hS => ?_)
  obtain ⟨hwf, hk9, zr25⟩ := hw
  have hkp := hkp.tr hk9
  refine lv_if_eq (tgt := 34) hx hb d_M_divide_7 (by decide) (fun c26 => ?_) (fun c26 => ?_)
  · have h := if_t c26 h
    exact b_34 M24 _ _ _ h hwf hkp hP hD hS (lv_sub hl [0] rfl)
  have h := if_f c26 h
  refine lv_aload_n hx hb d_M_divide_10 rfl (lv_at hl 0 rfl) ?_
  refine g_M_52 hx hb hts hown hK hP hwf hj0 (hts _ u_1793) d_M_divide_11 ?_
  obtain ⟨j27, e28, h⟩ := bd_ob h
  have hj27 : j27 < N 16 := (hwf.2.1 1 j0 52 _ (kp_r hkb hkp e28) (by decide) hj0)
  refine me_opt (j := j27) (kp_r hkb hkp e28) ?_
  refine lv_sipush (v := 30076) hx hb d_M_divide_14 (by decide) ?_
  obtain ⟨g29, h⟩ := gd_ob h
  refine me_lald hx hb hK hP hwf hj27 (me_in (i := (30076 : Int32)) (k := 30076) (by decide) (by decide) (kp_c hkb.z hkp.z g29)) d_M_divide_17 ?_
  refine fg_topl (y := mL M24 16 j27 30076) (congrArg _ (by decide)) ?_
  refine lv_lconst (v := 0) hx hb d_M_divide_18 (by decide) ?_
  refine W.lcmp hx hb d_M_divide_19 ?_
  refine lv_if_ne (tgt := 34) hx hb d_M_divide_20 (by decide) (fun c30 => ?_) (fun c30 => ?_)
  · have h := if_f (fun z => c30 ((lg_cmp_eq _ _).mpr z)) h
    exact b_34 M24 _ _ _ h hwf hkp hP hD hS (lv_sub hl [0] rfl)
  have h := if_t ((lg_cmp_eq _ _).mp c30) h
  refine lv_aload_n hx hb d_M_divide_23 rfl (lv_at hl 0 rfl) ?_
  refine lv_sipush (v := 30077) hx hb d_M_divide_24 (by decide) ?_
  refine lv_lconst (v := 0) hx hb d_M_divide_27 (by decide) ?_
  obtain ⟨M31, eM31, h⟩ := bd_ob h
  refine me_thenv0 (M1 := M31) (me_runV (C := "FilterGuardModel") (As := [.int 30077, .long 0]) (rest := []) ⟨hx, hb, hml, hown, hts⟩ (c_M_setExact l D ad ca N M24 M31 j0 (30077 : Int32) (0 : Int64) eM31 hwf hj0 _) rfl (by show fg_nm y_M_setExact 2; decide +kernel) u_2108 u_2110 u_106 u_192 u_2111 ⟨Nat.le_of_ble_eq_true rfl, Nat.le_of_ble_eq_true rfl⟩ hX hz hK hP hD hwf hS hA hj0 (by decide) rfl rfl rfl hl.1 (Nat.le_of_ble_eq_true rfl) d_M_divide_28 ⟨Nat.le_of_ble_eq_true rfl, Nat.le_of_ble_eq_true rfl⟩) hP hD hK hS hA rfl rfl (fun H locs hw hP hD hS => ?_)
  obtain ⟨hwf, hk9⟩ := hw
  have hkp := hkp.tr hk9
  refine lv_goto (tgt := 117) hx hb d_M_divide_31 (by decide) ?_
  cases h
  exact fg_retv () hx hb hr hlocks ⟨hwf, hkp⟩ hP (hK.sub (tys' := []) [] rfl) hD hS (Nat.le_of_ble_eq_true rfl) (Nat.le_of_ble_eq_true rfl) d_M_divide_117
theorem d_M_rest_50 : decode prog_14_method_24_code 50 = .ok (.istore_n 1, 1) := by decide +kernel
theorem d_M_rest_51 : decode prog_14_method_24_code 51 = .ok (.iload_n 1, 1) := by decide +kernel
theorem d_M_rest_52 : decode prog_14_method_24_code 52 = .ok (.ifCond .eq 16, 3) := by decide +kernel
theorem d_M_rest_68 : decode prog_14_method_24_code 68 = .ok (.aload_n 0, 1) := by decide +kernel
theorem d_M_rest_69 : decode prog_14_method_24_code 69 = .ok (.getfield 113, 3) := by decide +kernel
theorem d_M_rest_72 : decode prog_14_method_24_code 72 = .ok (.sipush 30077, 3) := by decide +kernel
theorem d_M_rest_75 : decode prog_14_method_24_code 75 = .ok (.aload_n 0, 1) := by decide +kernel
theorem d_M_rest_76 : decode prog_14_method_24_code 76 = .ok (.sipush 30076, 3) := by decide +kernel
theorem d_M_rest_79 : decode prog_14_method_24_code 79 = .ok (.invokevirtual 192, 3) := by decide +kernel
theorem d_M_rest_82 : decode prog_14_method_24_code 82 = .ok (.ifCond .eq 16, 3) := by decide +kernel
theorem d_M_rest_98 : decode prog_14_method_24_code 98 = .ok (.aload_n 0, 1) := by decide +kernel
theorem d_M_rest_99 : decode prog_14_method_24_code 99 = .ok (.getfield 113, 3) := by decide +kernel
theorem d_M_rest_102 : decode prog_14_method_24_code 102 = .ok (.sipush 30075, 3) := by decide +kernel
theorem d_M_rest_105 : decode prog_14_method_24_code 105 = .ok (.laload, 1) := by decide +kernel
theorem d_M_rest_106 : decode prog_14_method_24_code 106 = .ok (.lastore, 1) := by decide +kernel
theorem d_M_rest_107 : decode prog_14_method_24_code 107 = .ok (.return_, 1) := by decide +kernel
theorem d_M_rest_85 : decode prog_14_method_24_code 85 = .ok (.aload_n 0, 1) := by decide +kernel
theorem d_M_rest_86 : decode prog_14_method_24_code 86 = .ok (.getfield 104, 3) := by decide +kernel
theorem d_M_rest_89 : decode prog_14_method_24_code 89 = .ok (.sipush 30076, 3) := by decide +kernel
theorem d_M_rest_92 : decode prog_14_method_24_code 92 = .ok (.laload, 1) := by decide +kernel
theorem d_M_rest_93 : decode prog_14_method_24_code 93 = .ok (.lconst 1, 1) := by decide +kernel
theorem d_M_rest_94 : decode prog_14_method_24_code 94 = .ok (.lsub, 1) := by decide +kernel
theorem d_M_rest_95 : decode prog_14_method_24_code 95 = .ok (.goto 11, 3) := by decide +kernel
theorem d_M_rest_55 : decode prog_14_method_24_code 55 = .ok (.aload_n 0, 1) := by decide +kernel
theorem d_M_rest_56 : decode prog_14_method_24_code 56 = .ok (.sipush 30075, 3) := by decide +kernel
theorem d_M_rest_59 : decode prog_14_method_24_code 59 = .ok (.sipush 30077, 3) := by decide +kernel
theorem d_M_rest_62 : decode prog_14_method_24_code 62 = .ok (.invokevirtual 208, 3) := by decide +kernel
theorem u_2096 : Cond.methodLink "FilterGuardModel" 208 ⟨"FilterGuardModel", "copyNumber", "(II)V"⟩ ∈ fg_g := fg_in (List.mem_of_getElem? (i := 2096) (by decide +kernel)) rfl
theorem u_2099 : Cond.code ⟨"FilterGuardModel", "copyNumber", "(II)V"⟩ prog_14_method_7_code 3 none ∈ fg_g := fg_in (List.mem_of_getElem? (i := 2099) (by decide +kernel)) rfl
theorem u_2098 : Cond.instanceMethod ⟨"FilterGuardModel", "copyNumber", "(II)V"⟩ ∈ fg_g := fg_in (List.mem_of_getElem? (i := 2098) (by decide +kernel)) rfl
theorem u_103 : Cond.selects "FilterGuardModel" ⟨"FilterGuardModel", "copyNumber", "(II)V"⟩ ⟨"FilterGuardModel", "copyNumber", "(II)V"⟩ ∈ fg_g := fg_in (List.mem_of_getElem? (i := 103) (by decide +kernel)) rfl
theorem d_M_rest_65 : decode prog_14_method_24_code 65 = .ok (.goto 42, 3) := by decide +kernel
theorem d_M_rest_49 : decode prog_14_method_24_code 49 = .ok (.iconst 0, 1) := by decide +kernel
theorem d_M_rest_45 : decode prog_14_method_24_code 45 = .ok (.iconst 1, 1) := by decide +kernel
theorem d_M_rest_46 : decode prog_14_method_24_code 46 = .ok (.goto 4, 3) := by decide +kernel
theorem d_M_rest_0 : decode prog_14_method_24_code 0 = .ok (.aload_n 0, 1) := by decide +kernel
theorem d_M_rest_1 : decode prog_14_method_24_code 1 = .ok (.sipush 30076, 3) := by decide +kernel
theorem d_M_rest_4 : decode prog_14_method_24_code 4 = .ok (.invokevirtual 192, 3) := by decide +kernel
theorem d_M_rest_7 : decode prog_14_method_24_code 7 = .ok (.ifCond .eq 42, 3) := by decide +kernel
theorem d_M_rest_10 : decode prog_14_method_24_code 10 = .ok (.aload_n 0, 1) := by decide +kernel
theorem d_M_rest_11 : decode prog_14_method_24_code 11 = .ok (.getfield 104, 3) := by decide +kernel
theorem d_M_rest_14 : decode prog_14_method_24_code 14 = .ok (.sipush 30076, 3) := by decide +kernel
theorem d_M_rest_17 : decode prog_14_method_24_code 17 = .ok (.laload, 1) := by decide +kernel
theorem d_M_rest_18 : decode prog_14_method_24_code 18 = .ok (.lconst 0, 1) := by decide +kernel
theorem d_M_rest_19 : decode prog_14_method_24_code 19 = .ok (.lcmp, 1) := by decide +kernel
theorem d_M_rest_20 : decode prog_14_method_24_code 20 = .ok (.ifCond .eq 25, 3) := by decide +kernel
theorem d_M_rest_23 : decode prog_14_method_24_code 23 = .ok (.aload_n 0, 1) := by decide +kernel
theorem d_M_rest_24 : decode prog_14_method_24_code 24 = .ok (.getfield 113, 3) := by decide +kernel
theorem d_M_rest_27 : decode prog_14_method_24_code 27 = .ok (.sipush 30075, 3) := by decide +kernel
theorem d_M_rest_30 : decode prog_14_method_24_code 30 = .ok (.laload, 1) := by decide +kernel
theorem d_M_rest_31 : decode prog_14_method_24_code 31 = .ok (.aload_n 0, 1) := by decide +kernel
theorem d_M_rest_32 : decode prog_14_method_24_code 32 = .ok (.getfield 104, 3) := by decide +kernel
theorem d_M_rest_35 : decode prog_14_method_24_code 35 = .ok (.sipush 30076, 3) := by decide +kernel
theorem d_M_rest_38 : decode prog_14_method_24_code 38 = .ok (.laload, 1) := by decide +kernel
theorem d_M_rest_39 : decode prog_14_method_24_code 39 = .ok (.invokestatic 158, 3) := by decide +kernel
theorem d_M_rest_42 : decode prog_14_method_24_code 42 = .ok (.ifCond .eq 7, 3) := by decide +kernel
abbrev y_M_rest : MethodName := ⟨"FilterGuardModel", "rest", "()V"⟩
def f_M_rest_b50 (j0 : Nat) (M : me_M) (s0 : Int32) : Option me_M := (if s0 = 0 then bd (mR M 1 j0 55) (fun (j2 : Nat) => b2 (f_M_isExact M j0 (30076 : Int32)) (fun (M4 : me_M) (r5 : Int32) => (if r5 = 0 then gd (30075 < mZ M 16 j2) (gd (30077 < mZ M 16 j2) (st (wL M4 16 j2 30077 (mL M4 16 j2 30075)) (fun (M9 : me_M) => some M9))) else bd (mR M 1 j0 52) (fun (j10 : Nat) => gd (30076 < mZ M 16 j10) (gd (30077 < mZ M 16 j2) (st (wL M4 16 j2 30077 ((mL M4 16 j10 30076) - 1)) (fun (M14 : me_M) => some M14))))))) else bd (f_M_copyNumber M j0 (30075 : Int32) (30077 : Int32)) (fun (M15 : me_M) => some M15))
def f_M_rest_b49 (j0 : Nat) (M : me_M) : Option me_M := f_M_rest_b50 j0 M (0 : Int32)
def f_M_rest_b45 (j0 : Nat) (M : me_M) : Option me_M := f_M_rest_b50 j0 M (1 : Int32)
def f_M_rest (M0 : me_M) (j0 : Nat) : Option me_M := b2 (f_M_isExact M0 j0 (30076 : Int32)) (fun (M16 : me_M) (r17 : Int32) => (if r17 = 0 then f_M_rest_b49 j0 M16 else bd (mR M0 1 j0 52) (fun (j19 : Nat) => gd (30076 < mZ M0 16 j19) ((if (mL M16 16 j19 30076) = 0 then f_M_rest_b45 j0 M16 else bd (mR M0 1 j0 55) (fun (j23 : Nat) => gd (30075 < mZ M0 16 j23) (bd (f_M_below (mL M16 16 j23 30075) (mL M16 16 j19 30076)) (fun (r26 : Int32) => (if r26 = 0 then f_M_rest_b49 j0 M16 else f_M_rest_b45 j0 M16)))))))))
def rm_M_rest : Room := { frames := 2, cells := 0, slots := 0, locals := 43 }
abbrev q_M_rest (D : va_G) (ad : Nat → Nat → Nat) (ca : Nat → ClassId) (N : Nat → Nat) (M0 MZ : me_M) (A : Nat → Prop) : Array Value → Jvm.State → Outcome → Jvm.State → Prop := va_Qv (fun (_ : Unit) => me_wf N MZ ∧ me_kp M0 MZ) (fg_B D A (fun _ => me_W ad ca MZ) (fun _ => [])) A
set_option maxHeartbeats 4000000 in
set_option maxRecDepth 100000 in
theorem c_M_rest (l : Launch) (D : va_G) (ad : Nat → Nat → Nat) (ca : Nat → ClassId) (N : Nat → Nat) (M0 MZ : me_M) (j0 : Nat) (h : f_M_rest M0 j0 = (some MZ)) (hwf : me_wf N M0) (hj0 : j0 < N 1) (sz : Nat) : Met l y_M_rest (fg_w y_M_rest prog_14_method_24_code 2 none) rm_M_rest (va_Pc [.ref (ad 1 j0)] (fz_P D (me_T ca) (me_W ad ca M0) sz)) (q_M_rest D ad ca N M0 MZ (va_A (me_W ad ca M0) sz)) rm_M_rest.cells rm_M_rest.slots (va_A (me_W ad ca M0) sz) := by
  refine fz_enter (fun A => q_M_rest D ad ca N M0 MZ A) (by decide +kernel) (Nat.le_of_ble_eq_true rfl) ?_
  intro p e s m below meth c ls A hx hb hml hown hts hr hlocks hin hP hK hD hS hA hX hl hz
  have hl : lv_has ls 2 [(0, .ref (ad 1 j0))] := hl
  unfold f_M_rest at h
  have hkp : me_kp M0 M0 := me_kp.rf
  have hkb := hkp
  have b_50 : ∀ (M : me_M) (s0 : Int32) (H : Heap) (locs : List Loc) (ls : Array Slot), f_M_rest_b50 j0 M s0 = (some MZ) → (s0 = 1 ∨ s0 = 0) → me_wf N M → me_kp M0 M → va_P D classes (me_W ad ca M) H → va_D A (me_W ad ca M) → va_S A s.heap H locs → lv_has ls 2 [(0, .ref (ad 1 j0))] → W p l e rm_M_rest s m [.ref (ad 1 j0)].toArray below meth c H locs 0 0 (MQ below (q_M_rest D ad ca N M0 MZ A) [.ref (ad 1 j0)].toArray s rm_M_rest.cells rm_M_rest.slots A) (F0 m 50 ls [.int s0]) := by
    intro M s0 H locs ls h zs0 hwf hkp hP hD hS hl
    unfold f_M_rest_b50 at h
    have hkb := hkp
    refine lv_istore_n (lv' := [(1, .int s0), (0, .ref (ad 1 j0))]) hx hb d_M_rest_50 rfl hl (by decide) rfl (fun ls hl => ?_)
    refine lv_iload_n hx hb d_M_rest_51 rfl (lv_at hl 0 rfl) ?_
    refine lv_if_eq (tgt := 68) hx hb d_M_rest_52 (by decide) (fun c1 => ?_) (fun c1 => ?_)
    · have h := if_t c1 h
      refine lv_aload_n hx hb d_M_rest_68 rfl (lv_at hl 1 rfl) ?_
      refine g_M_55 hx hb hts hown hK hP hwf hj0 (hts _ u_1796) d_M_rest_69 ?_
      obtain ⟨j2, e3, h⟩ := bd_ob h
      have hj2 : j2 < N 16 := (hwf.2.1 1 j0 55 _ e3 (by decide) hj0)
      refine me_opt (j := j2) e3 ?_
      refine lv_sipush (v := 30077) hx hb d_M_rest_72 (by decide) ?_
      refine lv_aload_n hx hb d_M_rest_75 rfl (lv_at hl 1 rfl) ?_
      refine lv_sipush (v := 30076) hx hb d_M_rest_76 (by decide) ?_
      obtain ⟨M4, r5, eM4, h⟩ := b2_ob h
      refine me_theni0 (M1 := M4) (me_runV (C := "FilterGuardModel") (As := [.int 30076]) (rest := [.int 30077, .ref (ad 16 j2)]) ⟨hx, hb, hml, hown, hts⟩ (c_M_isExact l D ad ca N M M4 r5 j0 (30076 : Int32) eM4 hwf hj0 _) rfl (by show fg_nm y_M_isExact 1; decide +kernel) u_2251 u_2253 u_136 u_192 u_2254 ⟨Nat.le_of_ble_eq_true rfl, Nat.le_of_ble_eq_true rfl⟩ hX hz hK hP hD hwf hS hA hj0 (by decide) rfl rfl rfl hl.1 (Nat.le_of_ble_eq_true rfl) d_M_rest_79 ⟨Nat.le_of_ble_eq_true rfl, Nat.le_of_ble_eq_true rfl⟩) hP hD hK hS hA rfl rfl (fun H locs hw hP hD hS => ?_)
      obtain ⟨hwf, hk9, zr5⟩ := hw
      have hkp := hkp.tr hk9
      refine lv_if_eq (tgt := 98) hx hb d_M_rest_82 (by decide) (fun c6 => ?_) (fun c6 => ?_)
      · have h := if_t c6 h
        refine lv_aload_n hx hb d_M_rest_98 rfl (lv_at hl 1 rfl) ?_
        refine g_M_55 hx hb hts hown hK hP hwf hj0 (hts _ u_1796) d_M_rest_99 ?_
        refine me_opt (j := j2) (kp_r hkb hkp e3) ?_
        refine lv_sipush (v := 30075) hx hb d_M_rest_102 (by decide) ?_
        obtain ⟨g7, h⟩ := gd_ob h
        refine me_lald hx hb hK hP hwf hj2 (me_in (i := (30075 : Int32)) (k := 30075) (by decide) (by decide) (kp_c hkb.z hkp.z g7)) d_M_rest_105 ?_
        refine fg_topl (y := mL M4 16 j2 30075) (congrArg _ (by decide)) ?_
        obtain ⟨g8, h⟩ := gd_ob h
        obtain ⟨M9, eM9, h⟩ := st_ob h
        refine me_last (eM9.trans (by rw [show (30077 : Int32).toNatClampNeg = 30077 by decide])) hx hb hK hP hD hwf hS hj2 (me_in (i := (30077 : Int32)) (k := 30077) (by decide) (by decide) (kp_c hkb.z hkp.z g8)) d_M_rest_106 (fun H locs hP hD hwf hS => ?_)
        have hkp := kp_L eM9 hkp
        cases h
        exact fg_retv () hx hb hr hlocks ⟨hwf, hkp⟩ hP (hK.sub (tys' := []) [] rfl) hD hS (Nat.le_of_ble_eq_true rfl) (Nat.le_of_ble_eq_true rfl) d_M_rest_107
      have h := if_f c6 h
      refine lv_aload_n hx hb d_M_rest_85 rfl (lv_at hl 1 rfl) ?_
      refine g_M_52 hx hb hts hown hK hP hwf hj0 (hts _ u_1793) d_M_rest_86 ?_
      obtain ⟨j10, e11, h⟩ := bd_ob h
      have hj10 : j10 < N 16 := (hwf.2.1 1 j0 52 _ (kp_r hkb hkp e11) (by decide) hj0)
      refine me_opt (j := j10) (kp_r hkb hkp e11) ?_
      refine lv_sipush (v := 30076) hx hb d_M_rest_89 (by decide) ?_
      obtain ⟨g12, h⟩ := gd_ob h
      refine me_lald hx hb hK hP hwf hj10 (me_in (i := (30076 : Int32)) (k := 30076) (by decide) (by decide) (kp_c hkb.z hkp.z g12)) d_M_rest_92 ?_
      refine fg_topl (y := mL M4 16 j10 30076) (congrArg _ (by decide)) ?_
      refine lv_lconst (v := 1) hx hb d_M_rest_93 (by decide) ?_
      refine lv_lsub hx hb d_M_rest_94 ?_
      refine lv_goto (tgt := 106) hx hb d_M_rest_95 (by decide) ?_
      obtain ⟨g13, h⟩ := gd_ob h
      obtain ⟨M14, eM14, h⟩ := st_ob h
      refine me_last (eM14.trans (by rw [show (30077 : Int32).toNatClampNeg = 30077 by decide])) hx hb hK hP hD hwf hS hj2 (me_in (i := (30077 : Int32)) (k := 30077) (by decide) (by decide) (kp_c hkb.z hkp.z g13)) d_M_rest_106 (fun H locs hP hD hwf hS => ?_)
      have hkp := kp_L eM14 hkp
      cases h
      exact fg_retv () hx hb hr hlocks ⟨hwf, hkp⟩ hP (hK.sub (tys' := []) [] rfl) hD hS (Nat.le_of_ble_eq_true rfl) (Nat.le_of_ble_eq_true rfl) d_M_rest_107
    have h := if_f c1 h
    refine lv_aload_n hx hb d_M_rest_55 rfl (lv_at hl 1 rfl) ?_
    refine lv_sipush (v := 30075) hx hb d_M_rest_56 (by decide) ?_
    refine lv_sipush (v := 30077) hx hb d_M_rest_59 (by decide) ?_
    obtain ⟨M15, eM15, h⟩ := bd_ob h
    refine me_thenv0 (M1 := M15) (me_runV (C := "FilterGuardModel") (As := [.int 30075, .int 30077]) (rest := []) ⟨hx, hb, hml, hown, hts⟩ (c_M_copyNumber l D ad ca N M M15 j0 (30075 : Int32) (30077 : Int32) eM15 hwf hj0 _) rfl (by show fg_nm y_M_copyNumber 2; decide +kernel) u_2096 u_2098 u_103 u_192 u_2099 ⟨Nat.le_of_ble_eq_true rfl, Nat.le_of_ble_eq_true rfl⟩ hX hz hK hP hD hwf hS hA hj0 (by decide) rfl rfl rfl hl.1 (Nat.le_of_ble_eq_true rfl) d_M_rest_62 ⟨Nat.le_of_ble_eq_true rfl, Nat.le_of_ble_eq_true rfl⟩) hP hD hK hS hA rfl rfl (fun H locs hw hP hD hS => ?_)
    obtain ⟨hwf, hk9⟩ := hw
    have hkp := hkp.tr hk9
    refine lv_goto (tgt := 107) hx hb d_M_rest_65 (by decide) ?_
    cases h
    exact fg_retv () hx hb hr hlocks ⟨hwf, hkp⟩ hP (hK.sub (tys' := []) [] rfl) hD hS (Nat.le_of_ble_eq_true rfl) (Nat.le_of_ble_eq_true rfl) d_M_rest_107
  have b_49 : ∀ (M : me_M) (H : Heap) (locs : List Loc) (ls : Array Slot), f_M_rest_b49 j0 M = (some MZ) → me_wf N M → me_kp M0 M → va_P D classes (me_W ad ca M) H → va_D A (me_W ad ca M) → va_S A s.heap H locs → lv_has ls 2 [(0, .ref (ad 1 j0))] → W p l e rm_M_rest s m [.ref (ad 1 j0)].toArray below meth c H locs 0 0 (MQ below (q_M_rest D ad ca N M0 MZ A) [.ref (ad 1 j0)].toArray s rm_M_rest.cells rm_M_rest.slots A) (F0 m 49 ls []) := by
    intro M H locs ls h hwf hkp hP hD hS hl
    unfold f_M_rest_b49 at h
    have hkb := hkp
    refine lv_iconst (v := 0) hx hb d_M_rest_49 (by decide) ?_
    exact b_50 M (0 : Int32) _ _ _ h (by decide) hwf hkp hP hD hS (lv_sub hl [0] rfl)
  have b_45 : ∀ (M : me_M) (H : Heap) (locs : List Loc) (ls : Array Slot), f_M_rest_b45 j0 M = (some MZ) → me_wf N M → me_kp M0 M → va_P D classes (me_W ad ca M) H → va_D A (me_W ad ca M) → va_S A s.heap H locs → lv_has ls 2 [(0, .ref (ad 1 j0))] → W p l e rm_M_rest s m [.ref (ad 1 j0)].toArray below meth c H locs 0 0 (MQ below (q_M_rest D ad ca N M0 MZ A) [.ref (ad 1 j0)].toArray s rm_M_rest.cells rm_M_rest.slots A) (F0 m 45 ls []) := by
    intro M H locs ls h hwf hkp hP hD hS hl
    unfold f_M_rest_b45 at h
    have hkb := hkp
    refine lv_iconst (v := 1) hx hb d_M_rest_45 (by decide) ?_
    refine lv_goto (tgt := 50) hx hb d_M_rest_46 (by decide) ?_
    exact b_50 M (1 : Int32) _ _ _ h (by decide) hwf hkp hP hD hS (lv_sub hl [0] rfl)
  refine lv_aload_n hx hb d_M_rest_0 rfl (lv_at hl 0 rfl) ?_
  refine lv_sipush (v := 30076) hx hb d_M_rest_1 (by decide) ?_
  obtain ⟨M16, r17, eM16, h⟩ := b2_ob h
  refine me_theni0 (M1 := M16) (me_runV (C := "FilterGuardModel") (As := [.int 30076]) (rest := []) ⟨hx, hb, hml, hown, hts⟩ (c_M_isExact l D ad ca N M0 M16 r17 j0 (30076 : Int32) eM16 hwf hj0 _) rfl (by show fg_nm y_M_isExact 1; decide +kernel) u_2251 u_2253 u_136 u_192 u_2254 ⟨Nat.le_of_ble_eq_true rfl, Nat.le_of_ble_eq_true rfl⟩ hX hz hK hP hD hwf hS hA hj0 (by decide) rfl rfl rfl hl.1 (Nat.le_of_ble_eq_true rfl) d_M_rest_4 ⟨Nat.le_of_ble_eq_true rfl, Nat.le_of_ble_eq_true rfl⟩) hP hD hK hS hA rfl rfl (fun H locs hw hP hD hS => ?_)
  obtain ⟨hwf, hk9, zr17⟩ := hw
  have hkp := hkp.tr hk9
  refine lv_if_eq (tgt := 49) hx hb d_M_rest_7 (by decide) (fun c18 => ?_) (fun c18 => ?_)
  · have h := if_t c18 h
    exact b_49 M16 _ _ _ h hwf hkp hP hD hS (lv_sub hl [0] rfl)
  have h := if_f c18 h
  refine lv_aload_n hx hb d_M_rest_10 rfl (lv_at hl 0 rfl) ?_
  refine g_M_52 hx hb hts hown hK hP hwf hj0 (hts _ u_1793) d_M_rest_11 ?_
  obtain ⟨j19, e20, h⟩ := bd_ob h
  have hj19 : j19 < N 16 := (hwf.2.1 1 j0 52 _ (kp_r hkb hkp e20) (by decide) hj0)
  refine me_opt (j := j19) (kp_r hkb hkp e20) ?_
  refine lv_sipush (v := 30076) hx hb d_M_rest_14 (by decide) ?_
  obtain ⟨g21, h⟩ := gd_ob h
  refine me_lald hx hb hK hP hwf hj19 (me_in (i := (30076 : Int32)) (k := 30076) (by decide) (by decide) (kp_c hkb.z hkp.z g21)) d_M_rest_17 ?_
  refine fg_topl (y := mL M16 16 j19 30076) (congrArg _ (by decide)) ?_
  refine lv_lconst (v := 0) hx hb d_M_rest_18 (by decide) ?_
  refine W.lcmp hx hb d_M_rest_19 ?_
  refine lv_if_eq (tgt := 45) hx hb d_M_rest_20 (by decide) (fun c22 => ?_) (fun c22 => ?_)
  · have h := if_t ((lg_cmp_eq _ _).mp c22) h
    exact b_45 M16 _ _ _ h hwf hkp hP hD hS (lv_sub hl [0] rfl)
  have h := if_f (fun z => c22 ((lg_cmp_eq _ _).mpr z)) h
  refine lv_aload_n hx hb d_M_rest_23 rfl (lv_at hl 0 rfl) ?_
  refine g_M_55 hx hb hts hown hK hP hwf hj0 (hts _ u_1796) d_M_rest_24 ?_
  obtain ⟨j23, e24, h⟩ := bd_ob h
  have hj23 : j23 < N 16 := (hwf.2.1 1 j0 55 _ (kp_r hkb hkp e24) (by decide) hj0)
  refine me_opt (j := j23) (kp_r hkb hkp e24) ?_
  refine lv_sipush (v := 30075) hx hb d_M_rest_27 (by decide) ?_
  obtain ⟨g25, h⟩ := gd_ob h
  refine me_lald hx hb hK hP hwf hj23 (me_in (i := (30075 : Int32)) (k := 30075) (by decide) (by decide) (kp_c hkb.z hkp.z g25)) d_M_rest_30 ?_
  refine fg_topl (y := mL M16 16 j23 30075) (congrArg _ (by decide)) ?_
  refine lv_aload_n hx hb d_M_rest_31 rfl (lv_at hl 0 rfl) ?_
  refine g_M_52 hx hb hts hown hK hP hwf hj0 (hts _ u_1793) d_M_rest_32 ?_
  refine me_opt (j := j19) (kp_r hkb hkp e20) ?_
  refine lv_sipush (v := 30076) hx hb d_M_rest_35 (by decide) ?_
  refine me_lald hx hb hK hP hwf hj19 (me_in (i := (30076 : Int32)) (k := 30076) (by decide) (by decide) (kp_c hkb.z hkp.z g21)) d_M_rest_38 ?_
  refine fg_topl (y := mL M16 16 j19 30076) (congrArg _ (by decide)) ?_
  obtain ⟨r26, er26, h⟩ := bd_ob h
  refine me_pani' (r0 := r26) (fg_runS (wc := []) (tc := []) (A2 := A) (As := [.long (mL M16 16 j23 30075), .long (mL M16 16 j19 30076)]) (rest := []) ⟨hx, hb, hml, hown, hts⟩ (c_M_below l D r26 (mL M16 16 j23 30075) (mL M16 16 j19 30076) er26 _) (by show fg_nm y_M_below 2; decide +kernel) u_2072 u_2073 u_192 u_2074 ⟨Nat.le_of_ble_eq_true rfl, Nat.le_of_ble_eq_true rfl⟩ hX me_P0 (hK.sub (tys' := []) [] rfl) me_D0 rfl hl.1 (Nat.le_of_ble_eq_true rfl) d_M_rest_39 ⟨Nat.le_of_ble_eq_true rfl, Nat.le_of_ble_eq_true rfl⟩) hP hD hK hS hA rfl rfl (fun H locs hw hP hD hS => ?_)
  have zr26 := hw
  refine lv_if_eq (tgt := 49) hx hb d_M_rest_42 (by decide) (fun c27 => ?_) (fun c27 => ?_)
  · have h := if_t c27 h
    exact b_49 M16 _ _ _ h hwf hkp hP hD hS (lv_sub hl [0] rfl)
  have h := if_f c27 h
  exact b_45 M16 _ _ _ h hwf hkp hP hD hS (lv_sub hl [0] rfl)
theorem d_M_logic_0 : decode prog_14_method_25_code 0 = .ok (.iload_n 1, 1) := by decide +kernel
theorem d_M_logic_1 : decode prog_14_method_25_code 1 = .ok (.iconst 5, 1) := by decide +kernel
theorem d_M_logic_2 : decode prog_14_method_25_code 2 = .ok (.if_icmp .ne 114, 3) := by decide +kernel
theorem d_M_logic_116 : decode prog_14_method_25_code 116 = .ok (.iload_n 1, 1) := by decide +kernel
theorem d_M_logic_117 : decode prog_14_method_25_code 117 = .ok (.bipush 6, 2) := by decide +kernel
theorem d_M_logic_119 : decode prog_14_method_25_code 119 = .ok (.if_icmp .ne 96, 3) := by decide +kernel
theorem d_M_logic_215 : decode prog_14_method_25_code 215 = .ok (.aload_n 0, 1) := by decide +kernel
theorem d_M_logic_216 : decode prog_14_method_25_code 216 = .ok (.getfield 107, 3) := by decide +kernel
theorem d_M_logic_219 : decode prog_14_method_25_code 219 = .ok (.sipush 30077, 3) := by decide +kernel
theorem d_M_logic_222 : decode prog_14_method_25_code 222 = .ok (.aload_n 0, 1) := by decide +kernel
theorem d_M_logic_223 : decode prog_14_method_25_code 223 = .ok (.getfield 107, 3) := by decide +kernel
theorem d_M_logic_226 : decode prog_14_method_25_code 226 = .ok (.sipush 30075, 3) := by decide +kernel
theorem d_M_logic_229 : decode prog_14_method_25_code 229 = .ok (.laload, 1) := by decide +kernel
theorem d_M_logic_230 : decode prog_14_method_25_code 230 = .ok (.aload_n 0, 1) := by decide +kernel
theorem d_M_logic_231 : decode prog_14_method_25_code 231 = .ok (.getfield 107, 3) := by decide +kernel
theorem d_M_logic_234 : decode prog_14_method_25_code 234 = .ok (.sipush 30076, 3) := by decide +kernel
theorem d_M_logic_237 : decode prog_14_method_25_code 237 = .ok (.laload, 1) := by decide +kernel
theorem d_M_logic_238 : decode prog_14_method_25_code 238 = .ok (.lor, 1) := by decide +kernel
theorem d_M_logic_239 : decode prog_14_method_25_code 239 = .ok (.lastore, 1) := by decide +kernel
theorem d_M_logic_240 : decode prog_14_method_25_code 240 = .ok (.aload_n 0, 1) := by decide +kernel
theorem d_M_logic_241 : decode prog_14_method_25_code 241 = .ok (.getfield 104, 3) := by decide +kernel
theorem d_M_logic_244 : decode prog_14_method_25_code 244 = .ok (.sipush 30077, 3) := by decide +kernel
theorem d_M_logic_247 : decode prog_14_method_25_code 247 = .ok (.aload_n 0, 1) := by decide +kernel
theorem d_M_logic_248 : decode prog_14_method_25_code 248 = .ok (.getfield 104, 3) := by decide +kernel
theorem d_M_logic_251 : decode prog_14_method_25_code 251 = .ok (.sipush 30075, 3) := by decide +kernel
theorem d_M_logic_254 : decode prog_14_method_25_code 254 = .ok (.laload, 1) := by decide +kernel
theorem d_M_logic_255 : decode prog_14_method_25_code 255 = .ok (.aload_n 0, 1) := by decide +kernel
theorem d_M_logic_256 : decode prog_14_method_25_code 256 = .ok (.getfield 104, 3) := by decide +kernel
theorem d_M_logic_259 : decode prog_14_method_25_code 259 = .ok (.sipush 30076, 3) := by decide +kernel
theorem d_M_logic_262 : decode prog_14_method_25_code 262 = .ok (.laload, 1) := by decide +kernel
theorem d_M_logic_263 : decode prog_14_method_25_code 263 = .ok (.lxor, 1) := by decide +kernel
theorem d_M_logic_264 : decode prog_14_method_25_code 264 = .ok (.aload_n 0, 1) := by decide +kernel
theorem d_M_logic_265 : decode prog_14_method_25_code 265 = .ok (.getfield 107, 3) := by decide +kernel
theorem d_M_logic_268 : decode prog_14_method_25_code 268 = .ok (.sipush 30077, 3) := by decide +kernel
theorem d_M_logic_271 : decode prog_14_method_25_code 271 = .ok (.laload, 1) := by decide +kernel
theorem d_M_logic_272 : decode prog_14_method_25_code 272 = .ok (.ldc2_w 162, 3) := by decide +kernel
theorem d_M_logic_275 : decode prog_14_method_25_code 275 = .ok (.lxor, 1) := by decide +kernel
theorem d_M_logic_276 : decode prog_14_method_25_code 276 = .ok (.land, 1) := by decide +kernel
theorem d_M_logic_277 : decode prog_14_method_25_code 277 = .ok (.lastore, 1) := by decide +kernel
theorem d_M_logic_278 : decode prog_14_method_25_code 278 = .ok (.return_, 1) := by decide +kernel
theorem d_M_logic_122 : decode prog_14_method_25_code 122 = .ok (.aload_n 0, 1) := by decide +kernel
theorem d_M_logic_123 : decode prog_14_method_25_code 123 = .ok (.getfield 104, 3) := by decide +kernel
theorem d_M_logic_126 : decode prog_14_method_25_code 126 = .ok (.sipush 30077, 3) := by decide +kernel
theorem d_M_logic_129 : decode prog_14_method_25_code 129 = .ok (.aload_n 0, 1) := by decide +kernel
theorem d_M_logic_130 : decode prog_14_method_25_code 130 = .ok (.getfield 104, 3) := by decide +kernel
theorem d_M_logic_133 : decode prog_14_method_25_code 133 = .ok (.sipush 30075, 3) := by decide +kernel
theorem d_M_logic_136 : decode prog_14_method_25_code 136 = .ok (.laload, 1) := by decide +kernel
theorem d_M_logic_137 : decode prog_14_method_25_code 137 = .ok (.aload_n 0, 1) := by decide +kernel
theorem d_M_logic_138 : decode prog_14_method_25_code 138 = .ok (.getfield 104, 3) := by decide +kernel
theorem d_M_logic_141 : decode prog_14_method_25_code 141 = .ok (.sipush 30076, 3) := by decide +kernel
theorem d_M_logic_144 : decode prog_14_method_25_code 144 = .ok (.laload, 1) := by decide +kernel
theorem d_M_logic_145 : decode prog_14_method_25_code 145 = .ok (.lor, 1) := by decide +kernel
theorem d_M_logic_146 : decode prog_14_method_25_code 146 = .ok (.lastore, 1) := by decide +kernel
theorem d_M_logic_147 : decode prog_14_method_25_code 147 = .ok (.aload_n 0, 1) := by decide +kernel
theorem d_M_logic_148 : decode prog_14_method_25_code 148 = .ok (.getfield 107, 3) := by decide +kernel
theorem d_M_logic_151 : decode prog_14_method_25_code 151 = .ok (.sipush 30077, 3) := by decide +kernel
theorem d_M_logic_154 : decode prog_14_method_25_code 154 = .ok (.aload_n 0, 1) := by decide +kernel
theorem d_M_logic_155 : decode prog_14_method_25_code 155 = .ok (.getfield 107, 3) := by decide +kernel
theorem d_M_logic_158 : decode prog_14_method_25_code 158 = .ok (.sipush 30075, 3) := by decide +kernel
theorem d_M_logic_161 : decode prog_14_method_25_code 161 = .ok (.laload, 1) := by decide +kernel
theorem d_M_logic_162 : decode prog_14_method_25_code 162 = .ok (.aload_n 0, 1) := by decide +kernel
theorem d_M_logic_163 : decode prog_14_method_25_code 163 = .ok (.getfield 107, 3) := by decide +kernel
theorem d_M_logic_166 : decode prog_14_method_25_code 166 = .ok (.sipush 30076, 3) := by decide +kernel
theorem d_M_logic_169 : decode prog_14_method_25_code 169 = .ok (.laload, 1) := by decide +kernel
theorem d_M_logic_170 : decode prog_14_method_25_code 170 = .ok (.lor, 1) := by decide +kernel
theorem d_M_logic_171 : decode prog_14_method_25_code 171 = .ok (.aload_n 0, 1) := by decide +kernel
theorem d_M_logic_172 : decode prog_14_method_25_code 172 = .ok (.getfield 104, 3) := by decide +kernel
theorem d_M_logic_175 : decode prog_14_method_25_code 175 = .ok (.sipush 30077, 3) := by decide +kernel
theorem d_M_logic_178 : decode prog_14_method_25_code 178 = .ok (.laload, 1) := by decide +kernel
theorem d_M_logic_179 : decode prog_14_method_25_code 179 = .ok (.ldc2_w 162, 3) := by decide +kernel
theorem d_M_logic_182 : decode prog_14_method_25_code 182 = .ok (.lxor, 1) := by decide +kernel
theorem d_M_logic_183 : decode prog_14_method_25_code 183 = .ok (.land, 1) := by decide +kernel
theorem d_M_logic_184 : decode prog_14_method_25_code 184 = .ok (.lastore, 1) := by decide +kernel
theorem d_M_logic_185 : decode prog_14_method_25_code 185 = .ok (.aload_n 0, 1) := by decide +kernel
theorem d_M_logic_186 : decode prog_14_method_25_code 186 = .ok (.getfield 110, 3) := by decide +kernel
theorem d_M_logic_189 : decode prog_14_method_25_code 189 = .ok (.sipush 30077, 3) := by decide +kernel
theorem d_M_logic_192 : decode prog_14_method_25_code 192 = .ok (.aload_n 0, 1) := by decide +kernel
theorem d_M_logic_193 : decode prog_14_method_25_code 193 = .ok (.getfield 110, 3) := by decide +kernel
theorem d_M_logic_196 : decode prog_14_method_25_code 196 = .ok (.sipush 30075, 3) := by decide +kernel
theorem d_M_logic_199 : decode prog_14_method_25_code 199 = .ok (.laload, 1) := by decide +kernel
theorem d_M_logic_200 : decode prog_14_method_25_code 200 = .ok (.aload_n 0, 1) := by decide +kernel
theorem d_M_logic_201 : decode prog_14_method_25_code 201 = .ok (.getfield 110, 3) := by decide +kernel
theorem d_M_logic_204 : decode prog_14_method_25_code 204 = .ok (.sipush 30076, 3) := by decide +kernel
theorem d_M_logic_207 : decode prog_14_method_25_code 207 = .ok (.laload, 1) := by decide +kernel
theorem d_M_logic_208 : decode prog_14_method_25_code 208 = .ok (.invokestatic 166, 3) := by decide +kernel
theorem d_M_logic_211 : decode prog_14_method_25_code 211 = .ok (.lastore, 1) := by decide +kernel
theorem d_M_logic_212 : decode prog_14_method_25_code 212 = .ok (.goto 66, 3) := by decide +kernel
theorem d_M_logic_5 : decode prog_14_method_25_code 5 = .ok (.aload_n 0, 1) := by decide +kernel
theorem d_M_logic_6 : decode prog_14_method_25_code 6 = .ok (.getfield 104, 3) := by decide +kernel
theorem d_M_logic_9 : decode prog_14_method_25_code 9 = .ok (.sipush 30077, 3) := by decide +kernel
theorem d_M_logic_12 : decode prog_14_method_25_code 12 = .ok (.aload_n 0, 1) := by decide +kernel
theorem d_M_logic_13 : decode prog_14_method_25_code 13 = .ok (.getfield 104, 3) := by decide +kernel
theorem d_M_logic_16 : decode prog_14_method_25_code 16 = .ok (.sipush 30075, 3) := by decide +kernel
theorem d_M_logic_19 : decode prog_14_method_25_code 19 = .ok (.laload, 1) := by decide +kernel
theorem d_M_logic_20 : decode prog_14_method_25_code 20 = .ok (.aload_n 0, 1) := by decide +kernel
theorem d_M_logic_21 : decode prog_14_method_25_code 21 = .ok (.getfield 104, 3) := by decide +kernel
theorem d_M_logic_24 : decode prog_14_method_25_code 24 = .ok (.sipush 30076, 3) := by decide +kernel
theorem d_M_logic_27 : decode prog_14_method_25_code 27 = .ok (.laload, 1) := by decide +kernel
theorem d_M_logic_28 : decode prog_14_method_25_code 28 = .ok (.land, 1) := by decide +kernel
theorem d_M_logic_29 : decode prog_14_method_25_code 29 = .ok (.lastore, 1) := by decide +kernel
theorem d_M_logic_30 : decode prog_14_method_25_code 30 = .ok (.aload_n 0, 1) := by decide +kernel
theorem d_M_logic_31 : decode prog_14_method_25_code 31 = .ok (.getfield 107, 3) := by decide +kernel
theorem d_M_logic_34 : decode prog_14_method_25_code 34 = .ok (.sipush 30077, 3) := by decide +kernel
theorem d_M_logic_37 : decode prog_14_method_25_code 37 = .ok (.aload_n 0, 1) := by decide +kernel
theorem d_M_logic_38 : decode prog_14_method_25_code 38 = .ok (.getfield 104, 3) := by decide +kernel
theorem d_M_logic_41 : decode prog_14_method_25_code 41 = .ok (.sipush 30075, 3) := by decide +kernel
theorem d_M_logic_44 : decode prog_14_method_25_code 44 = .ok (.laload, 1) := by decide +kernel
theorem d_M_logic_45 : decode prog_14_method_25_code 45 = .ok (.aload_n 0, 1) := by decide +kernel
theorem d_M_logic_46 : decode prog_14_method_25_code 46 = .ok (.getfield 107, 3) := by decide +kernel
theorem d_M_logic_49 : decode prog_14_method_25_code 49 = .ok (.sipush 30075, 3) := by decide +kernel
theorem d_M_logic_52 : decode prog_14_method_25_code 52 = .ok (.laload, 1) := by decide +kernel
theorem d_M_logic_53 : decode prog_14_method_25_code 53 = .ok (.lor, 1) := by decide +kernel
theorem d_M_logic_54 : decode prog_14_method_25_code 54 = .ok (.aload_n 0, 1) := by decide +kernel
theorem d_M_logic_55 : decode prog_14_method_25_code 55 = .ok (.getfield 104, 3) := by decide +kernel
theorem d_M_logic_58 : decode prog_14_method_25_code 58 = .ok (.sipush 30076, 3) := by decide +kernel
theorem d_M_logic_61 : decode prog_14_method_25_code 61 = .ok (.laload, 1) := by decide +kernel
theorem d_M_logic_62 : decode prog_14_method_25_code 62 = .ok (.aload_n 0, 1) := by decide +kernel
theorem d_M_logic_63 : decode prog_14_method_25_code 63 = .ok (.getfield 107, 3) := by decide +kernel
theorem d_M_logic_66 : decode prog_14_method_25_code 66 = .ok (.sipush 30076, 3) := by decide +kernel
theorem d_M_logic_69 : decode prog_14_method_25_code 69 = .ok (.laload, 1) := by decide +kernel
theorem d_M_logic_70 : decode prog_14_method_25_code 70 = .ok (.lor, 1) := by decide +kernel
theorem d_M_logic_71 : decode prog_14_method_25_code 71 = .ok (.land, 1) := by decide +kernel
theorem d_M_logic_72 : decode prog_14_method_25_code 72 = .ok (.aload_n 0, 1) := by decide +kernel
theorem d_M_logic_73 : decode prog_14_method_25_code 73 = .ok (.getfield 104, 3) := by decide +kernel
theorem d_M_logic_76 : decode prog_14_method_25_code 76 = .ok (.sipush 30077, 3) := by decide +kernel
theorem d_M_logic_79 : decode prog_14_method_25_code 79 = .ok (.laload, 1) := by decide +kernel
theorem d_M_logic_80 : decode prog_14_method_25_code 80 = .ok (.ldc2_w 162, 3) := by decide +kernel
theorem d_M_logic_83 : decode prog_14_method_25_code 83 = .ok (.lxor, 1) := by decide +kernel
theorem d_M_logic_84 : decode prog_14_method_25_code 84 = .ok (.land, 1) := by decide +kernel
theorem d_M_logic_85 : decode prog_14_method_25_code 85 = .ok (.lastore, 1) := by decide +kernel
theorem d_M_logic_86 : decode prog_14_method_25_code 86 = .ok (.aload_n 0, 1) := by decide +kernel
theorem d_M_logic_87 : decode prog_14_method_25_code 87 = .ok (.getfield 113, 3) := by decide +kernel
theorem d_M_logic_90 : decode prog_14_method_25_code 90 = .ok (.sipush 30077, 3) := by decide +kernel
theorem d_M_logic_93 : decode prog_14_method_25_code 93 = .ok (.aload_n 0, 1) := by decide +kernel
theorem d_M_logic_94 : decode prog_14_method_25_code 94 = .ok (.getfield 113, 3) := by decide +kernel
theorem d_M_logic_97 : decode prog_14_method_25_code 97 = .ok (.sipush 30075, 3) := by decide +kernel
theorem d_M_logic_100 : decode prog_14_method_25_code 100 = .ok (.laload, 1) := by decide +kernel
theorem d_M_logic_101 : decode prog_14_method_25_code 101 = .ok (.aload_n 0, 1) := by decide +kernel
theorem d_M_logic_102 : decode prog_14_method_25_code 102 = .ok (.getfield 113, 3) := by decide +kernel
theorem d_M_logic_105 : decode prog_14_method_25_code 105 = .ok (.sipush 30076, 3) := by decide +kernel
theorem d_M_logic_108 : decode prog_14_method_25_code 108 = .ok (.laload, 1) := by decide +kernel
theorem d_M_logic_109 : decode prog_14_method_25_code 109 = .ok (.invokestatic 170, 3) := by decide +kernel
theorem d_M_logic_112 : decode prog_14_method_25_code 112 = .ok (.lastore, 1) := by decide +kernel
theorem d_M_logic_113 : decode prog_14_method_25_code 113 = .ok (.goto 165, 3) := by decide +kernel
abbrev y_M_logic : MethodName := ⟨"FilterGuardModel", "logic", "(I)V"⟩
def f_M_logic (M0 : me_M) (j0 : Nat) (x1 : Int32) : Option me_M := (if x1 = 5 then bd (mR M0 1 j0 52) (fun (j36 : Nat) => gd (30075 < mZ M0 16 j36) (gd (30076 < mZ M0 16 j36) (gd (30077 < mZ M0 16 j36) (st (wL M0 16 j36 30077 ((mL M0 16 j36 30075) &&& (mL M0 16 j36 30076))) (fun (M41 : me_M) => bd (mR M0 1 j0 53) (fun (j42 : Nat) => gd (30075 < mZ M0 16 j42) (gd (30076 < mZ M0 16 j42) (st (((mL M41 16 j36 30075) ||| (mL M41 16 j42 30075)) &&& ((mL M41 16 j36 30076) ||| (mL M41 16 j42 30076))) (fun (v46 : Int64) => gd (30077 < mZ M0 16 j42) (st (wL M41 16 j42 30077 (v46 &&& ((mL M41 16 j36 30077) ^^^ (-1)))) (fun (M48 : me_M) => bd (mR M0 1 j0 55) (fun (j49 : Nat) => gd (30075 < mZ M0 16 j49) (gd (30076 < mZ M0 16 j49) (bd (f_M_lesser (mL M48 16 j49 30075) (mL M48 16 j49 30076)) (fun (r53 : Int64) => gd (30077 < mZ M0 16 j49) (st (wL M48 16 j49 30077 r53) (fun (M55 : me_M) => some M55))))))))))))))))) else (if x1 = 6 then bd (mR M0 1 j0 52) (fun (j16 : Nat) => gd (30075 < mZ M0 16 j16) (gd (30076 < mZ M0 16 j16) (gd (30077 < mZ M0 16 j16) (st (wL M0 16 j16 30077 ((mL M0 16 j16 30075) ||| (mL M0 16 j16 30076))) (fun (M21 : me_M) => bd (mR M0 1 j0 53) (fun (j22 : Nat) => gd (30075 < mZ M0 16 j22) (gd (30076 < mZ M0 16 j22) (st (((mL M21 16 j22 30075) ||| (mL M21 16 j22 30076)) &&& ((mL M21 16 j16 30077) ^^^ (-1))) (fun (v26 : Int64) => gd (30077 < mZ M0 16 j22) (st (wL M21 16 j22 30077 v26) (fun (M28 : me_M) => bd (mR M0 1 j0 54) (fun (j29 : Nat) => gd (30075 < mZ M0 16 j29) (gd (30076 < mZ M0 16 j29) (bd (f_M_greater (mL M28 16 j29 30075) (mL M28 16 j29 30076)) (fun (r33 : Int64) => gd (30077 < mZ M0 16 j29) (st (wL M28 16 j29 30077 r33) (fun (M35 : me_M) => some M35))))))))))))))))) else bd (mR M0 1 j0 53) (fun (j3 : Nat) => gd (30075 < mZ M0 16 j3) (gd (30076 < mZ M0 16 j3) (gd (30077 < mZ M0 16 j3) (st (wL M0 16 j3 30077 ((mL M0 16 j3 30075) ||| (mL M0 16 j3 30076))) (fun (M8 : me_M) => bd (mR M0 1 j0 52) (fun (j9 : Nat) => gd (30075 < mZ M0 16 j9) (gd (30076 < mZ M0 16 j9) (st (((mL M8 16 j9 30075) ^^^ (mL M8 16 j9 30076)) &&& ((mL M8 16 j3 30077) ^^^ (-1))) (fun (v13 : Int64) => gd (30077 < mZ M0 16 j9) (st (wL M8 16 j9 30077 v13) (fun (M15 : me_M) => some M15)))))))))))))
def rm_M_logic : Room := { frames := 3, cells := 0, slots := 0, locals := 66 }
abbrev q_M_logic (D : va_G) (ad : Nat → Nat → Nat) (ca : Nat → ClassId) (N : Nat → Nat) (M0 MZ : me_M) (A : Nat → Prop) : Array Value → Jvm.State → Outcome → Jvm.State → Prop := va_Qv (fun (_ : Unit) => me_wf N MZ ∧ me_kp M0 MZ) (fg_B D A (fun _ => me_W ad ca MZ) (fun _ => [])) A
set_option maxHeartbeats 4000000 in
set_option maxRecDepth 100000 in
theorem c_M_logic (l : Launch) (D : va_G) (ad : Nat → Nat → Nat) (ca : Nat → ClassId) (N : Nat → Nat) (M0 MZ : me_M) (j0 : Nat) (x1 : Int32) (h : f_M_logic M0 j0 x1 = (some MZ)) (hwf : me_wf N M0) (hj0 : j0 < N 1) (sz : Nat) : Met l y_M_logic (fg_w y_M_logic prog_14_method_25_code 2 none) rm_M_logic (va_Pc [.ref (ad 1 j0), .int x1] (fz_P D (me_T ca) (me_W ad ca M0) sz)) (q_M_logic D ad ca N M0 MZ (va_A (me_W ad ca M0) sz)) rm_M_logic.cells rm_M_logic.slots (va_A (me_W ad ca M0) sz) := by
  refine fz_enter (fun A => q_M_logic D ad ca N M0 MZ A) (by decide +kernel) (Nat.le_of_ble_eq_true rfl) ?_
  intro p e s m below meth c ls A hx hb hml hown hts hr hlocks hin hP hK hD hS hA hX hl hz
  have hl : lv_has ls 2 [(0, .ref (ad 1 j0)), (1, .int x1)] := hl
  unfold f_M_logic at h
  have hkp : me_kp M0 M0 := me_kp.rf
  have hkb := hkp
  refine lv_iload_n hx hb d_M_logic_0 rfl (lv_at hl 1 rfl) ?_
  refine lv_iconst (v := 5) hx hb d_M_logic_1 (by decide) ?_
  refine lv_icmp_ne (tgt := 116) hx hb d_M_logic_2 (by decide) (fun c1 => ?_) (fun c1 => ?_)
  · have h := if_f c1 h
    refine lv_iload_n hx hb d_M_logic_116 rfl (lv_at hl 1 rfl) ?_
    refine lv_bipush (v := 6) hx hb d_M_logic_117 (by decide) ?_
    refine lv_icmp_ne (tgt := 215) hx hb d_M_logic_119 (by decide) (fun c2 => ?_) (fun c2 => ?_)
    · have h := if_f c2 h
      refine lv_aload_n hx hb d_M_logic_215 rfl (lv_at hl 0 rfl) ?_
      refine g_M_53 hx hb hts hown hK hP hwf hj0 (hts _ u_1794) d_M_logic_216 ?_
      obtain ⟨j3, e4, h⟩ := bd_ob h
      have hj3 : j3 < N 16 := (hwf.2.1 1 j0 53 _ e4 (by decide) hj0)
      refine me_opt (j := j3) e4 ?_
      refine lv_sipush (v := 30077) hx hb d_M_logic_219 (by decide) ?_
      refine lv_aload_n hx hb d_M_logic_222 rfl (lv_at hl 0 rfl) ?_
      refine g_M_53 hx hb hts hown hK hP hwf hj0 (hts _ u_1794) d_M_logic_223 ?_
      refine me_opt (j := j3) e4 ?_
      refine lv_sipush (v := 30075) hx hb d_M_logic_226 (by decide) ?_
      obtain ⟨g5, h⟩ := gd_ob h
      refine me_lald hx hb hK hP hwf hj3 (me_in (i := (30075 : Int32)) (k := 30075) (by decide) (by decide) g5) d_M_logic_229 ?_
      refine fg_topl (y := mL M0 16 j3 30075) (congrArg _ (by decide)) ?_
      refine lv_aload_n hx hb d_M_logic_230 rfl (lv_at hl 0 rfl) ?_
      refine g_M_53 hx hb hts hown hK hP hwf hj0 (hts _ u_1794) d_M_logic_231 ?_
      refine me_opt (j := j3) e4 ?_
      refine lv_sipush (v := 30076) hx hb d_M_logic_234 (by decide) ?_
      obtain ⟨g6, h⟩ := gd_ob h
      refine me_lald hx hb hK hP hwf hj3 (me_in (i := (30076 : Int32)) (k := 30076) (by decide) (by decide) g6) d_M_logic_237 ?_
      refine fg_topl (y := mL M0 16 j3 30076) (congrArg _ (by decide)) ?_
      refine lv_lor hx hb d_M_logic_238 ?_
      obtain ⟨g7, h⟩ := gd_ob h
      obtain ⟨M8, eM8, h⟩ := st_ob h
      refine me_last (eM8.trans (by rw [show (30077 : Int32).toNatClampNeg = 30077 by decide])) hx hb hK hP hD hwf hS hj3 (me_in (i := (30077 : Int32)) (k := 30077) (by decide) (by decide) g7) d_M_logic_239 (fun H locs hP hD hwf hS => ?_)
      have hkp := kp_L eM8 hkp
      refine lv_aload_n hx hb d_M_logic_240 rfl (lv_at hl 0 rfl) ?_
      refine g_M_52 hx hb hts hown hK hP hwf hj0 (hts _ u_1793) d_M_logic_241 ?_
      obtain ⟨j9, e10, h⟩ := bd_ob h
      have hj9 : j9 < N 16 := (hwf.2.1 1 j0 52 _ (kp_r hkb hkp e10) (by decide) hj0)
      refine me_opt (j := j9) (kp_r hkb hkp e10) ?_
      refine lv_sipush (v := 30077) hx hb d_M_logic_244 (by decide) ?_
      refine lv_aload_n hx hb d_M_logic_247 rfl (lv_at hl 0 rfl) ?_
      refine g_M_52 hx hb hts hown hK hP hwf hj0 (hts _ u_1793) d_M_logic_248 ?_
      refine me_opt (j := j9) (kp_r hkb hkp e10) ?_
      refine lv_sipush (v := 30075) hx hb d_M_logic_251 (by decide) ?_
      obtain ⟨g11, h⟩ := gd_ob h
      refine me_lald hx hb hK hP hwf hj9 (me_in (i := (30075 : Int32)) (k := 30075) (by decide) (by decide) (kp_c hkb.z hkp.z g11)) d_M_logic_254 ?_
      refine fg_topl (y := mL M8 16 j9 30075) (congrArg _ (by decide)) ?_
      refine lv_aload_n hx hb d_M_logic_255 rfl (lv_at hl 0 rfl) ?_
      refine g_M_52 hx hb hts hown hK hP hwf hj0 (hts _ u_1793) d_M_logic_256 ?_
      refine me_opt (j := j9) (kp_r hkb hkp e10) ?_
      refine lv_sipush (v := 30076) hx hb d_M_logic_259 (by decide) ?_
      obtain ⟨g12, h⟩ := gd_ob h
      refine me_lald hx hb hK hP hwf hj9 (me_in (i := (30076 : Int32)) (k := 30076) (by decide) (by decide) (kp_c hkb.z hkp.z g12)) d_M_logic_262 ?_
      refine fg_topl (y := mL M8 16 j9 30076) (congrArg _ (by decide)) ?_
      refine lv_lxor hx hb d_M_logic_263 ?_
      refine lv_aload_n hx hb d_M_logic_264 rfl (lv_at hl 0 rfl) ?_
      refine g_M_53 hx hb hts hown hK hP hwf hj0 (hts _ u_1794) d_M_logic_265 ?_
      refine me_opt (j := j3) (kp_r hkb hkp e4) ?_
      refine lv_sipush (v := 30077) hx hb d_M_logic_268 (by decide) ?_
      refine me_lald hx hb hK hP hwf hj3 (me_in (i := (30077 : Int32)) (k := 30077) (by decide) (by decide) (kp_c hkb.z hkp.z g7)) d_M_logic_271 ?_
      refine fg_topl (y := mL M8 16 j3 30077) (congrArg _ (by decide)) ?_
      refine lv_ldc2 hx hb hown (hts _ u_2071) d_M_logic_272 ?_
      refine lv_lxor hx hb d_M_logic_275 ?_
      refine lv_land hx hb d_M_logic_276 ?_
      obtain ⟨v13, ev13, h⟩ := st_ob h
      refine fg_topl (y := v13) ev13.symm ?_
      obtain ⟨g14, h⟩ := gd_ob h
      obtain ⟨M15, eM15, h⟩ := st_ob h
      refine me_last (eM15.trans (by rw [show (30077 : Int32).toNatClampNeg = 30077 by decide])) hx hb hK hP hD hwf hS hj9 (me_in (i := (30077 : Int32)) (k := 30077) (by decide) (by decide) (kp_c hkb.z hkp.z g14)) d_M_logic_277 (fun H locs hP hD hwf hS => ?_)
      have hkp := kp_L eM15 hkp
      cases h
      exact fg_retv () hx hb hr hlocks ⟨hwf, hkp⟩ hP (hK.sub (tys' := []) [] rfl) hD hS (Nat.le_of_ble_eq_true rfl) (Nat.le_of_ble_eq_true rfl) d_M_logic_278
    have h := if_t c2 h
    refine lv_aload_n hx hb d_M_logic_122 rfl (lv_at hl 0 rfl) ?_
    refine g_M_52 hx hb hts hown hK hP hwf hj0 (hts _ u_1793) d_M_logic_123 ?_
    obtain ⟨j16, e17, h⟩ := bd_ob h
    have hj16 : j16 < N 16 := (hwf.2.1 1 j0 52 _ e17 (by decide) hj0)
    refine me_opt (j := j16) e17 ?_
    refine lv_sipush (v := 30077) hx hb d_M_logic_126 (by decide) ?_
    refine lv_aload_n hx hb d_M_logic_129 rfl (lv_at hl 0 rfl) ?_
    refine g_M_52 hx hb hts hown hK hP hwf hj0 (hts _ u_1793) d_M_logic_130 ?_
    refine me_opt (j := j16) e17 ?_
    refine lv_sipush (v := 30075) hx hb d_M_logic_133 (by decide) ?_
    obtain ⟨g18, h⟩ := gd_ob h
    refine me_lald hx hb hK hP hwf hj16 (me_in (i := (30075 : Int32)) (k := 30075) (by decide) (by decide) g18) d_M_logic_136 ?_
    refine fg_topl (y := mL M0 16 j16 30075) (congrArg _ (by decide)) ?_
    refine lv_aload_n hx hb d_M_logic_137 rfl (lv_at hl 0 rfl) ?_
    refine g_M_52 hx hb hts hown hK hP hwf hj0 (hts _ u_1793) d_M_logic_138 ?_
    refine me_opt (j := j16) e17 ?_
    refine lv_sipush (v := 30076) hx hb d_M_logic_141 (by decide) ?_
    obtain ⟨g19, h⟩ := gd_ob h
    refine me_lald hx hb hK hP hwf hj16 (me_in (i := (30076 : Int32)) (k := 30076) (by decide) (by decide) g19) d_M_logic_144 ?_
    refine fg_topl (y := mL M0 16 j16 30076) (congrArg _ (by decide)) ?_
    refine lv_lor hx hb d_M_logic_145 ?_
    obtain ⟨g20, h⟩ := gd_ob h
    obtain ⟨M21, eM21, h⟩ := st_ob h
    refine me_last (eM21.trans (by rw [show (30077 : Int32).toNatClampNeg = 30077 by decide])) hx hb hK hP hD hwf hS hj16 (me_in (i := (30077 : Int32)) (k := 30077) (by decide) (by decide) g20) d_M_logic_146 (fun H locs hP hD hwf hS => ?_)
    have hkp := kp_L eM21 hkp
    refine lv_aload_n hx hb d_M_logic_147 rfl (lv_at hl 0 rfl) ?_
    refine g_M_53 hx hb hts hown hK hP hwf hj0 (hts _ u_1794) d_M_logic_148 ?_
    obtain ⟨j22, e23, h⟩ := bd_ob h
    have hj22 : j22 < N 16 := (hwf.2.1 1 j0 53 _ (kp_r hkb hkp e23) (by decide) hj0)
    refine me_opt (j := j22) (kp_r hkb hkp e23) ?_
    refine lv_sipush (v := 30077) hx hb d_M_logic_151 (by decide) ?_
    refine lv_aload_n hx hb d_M_logic_154 rfl (lv_at hl 0 rfl) ?_
    refine g_M_53 hx hb hts hown hK hP hwf hj0 (hts _ u_1794) d_M_logic_155 ?_
    refine me_opt (j := j22) (kp_r hkb hkp e23) ?_
    refine lv_sipush (v := 30075) hx hb d_M_logic_158 (by decide) ?_
    obtain ⟨g24, h⟩ := gd_ob h
    refine me_lald hx hb hK hP hwf hj22 (me_in (i := (30075 : Int32)) (k := 30075) (by decide) (by decide) (kp_c hkb.z hkp.z g24)) d_M_logic_161 ?_
    refine fg_topl (y := mL M21 16 j22 30075) (congrArg _ (by decide)) ?_
    refine lv_aload_n hx hb d_M_logic_162 rfl (lv_at hl 0 rfl) ?_
    refine g_M_53 hx hb hts hown hK hP hwf hj0 (hts _ u_1794) d_M_logic_163 ?_
    refine me_opt (j := j22) (kp_r hkb hkp e23) ?_
    refine lv_sipush (v := 30076) hx hb d_M_logic_166 (by decide) ?_
    obtain ⟨g25, h⟩ := gd_ob h
    refine me_lald hx hb hK hP hwf hj22 (me_in (i := (30076 : Int32)) (k := 30076) (by decide) (by decide) (kp_c hkb.z hkp.z g25)) d_M_logic_169 ?_
    refine fg_topl (y := mL M21 16 j22 30076) (congrArg _ (by decide)) ?_
    refine lv_lor hx hb d_M_logic_170 ?_
    refine lv_aload_n hx hb d_M_logic_171 rfl (lv_at hl 0 rfl) ?_
    refine g_M_52 hx hb hts hown hK hP hwf hj0 (hts _ u_1793) d_M_logic_172 ?_
    refine me_opt (j := j16) (kp_r hkb hkp e17) ?_
    refine lv_sipush (v := 30077) hx hb d_M_logic_175 (by decide) ?_
    refine me_lald hx hb hK hP hwf hj16 (me_in (i := (30077 : Int32)) (k := 30077) (by decide) (by decide) (kp_c hkb.z hkp.z g20)) d_M_logic_178 ?_
    refine fg_topl (y := mL M21 16 j16 30077) (congrArg _ (by decide)) ?_
    refine lv_ldc2 hx hb hown (hts _ u_2071) d_M_logic_179 ?_
    refine lv_lxor hx hb d_M_logic_182 ?_
    refine lv_land hx hb d_M_logic_183 ?_
    obtain ⟨v26, ev26, h⟩ := st_ob h
    refine fg_topl (y := v26) ev26.symm ?_
    obtain ⟨g27, h⟩ := gd_ob h
    obtain ⟨M28, eM28, h⟩ := st_ob h
    refine me_last (eM28.trans (by rw [show (30077 : Int32).toNatClampNeg = 30077 by decide])) hx hb hK hP hD hwf hS hj22 (me_in (i := (30077 : Int32)) (k := 30077) (by decide) (by decide) (kp_c hkb.z hkp.z g27)) d_M_logic_184 (fun H locs hP hD hwf hS => ?_)
    have hkp := kp_L eM28 hkp
    refine lv_aload_n hx hb d_M_logic_185 rfl (lv_at hl 0 rfl) ?_
    refine g_M_54 hx hb hts hown hK hP hwf hj0 (hts _ u_1795) d_M_logic_186 ?_
    obtain ⟨j29, e30, h⟩ := bd_ob h
    have hj29 : j29 < N 16 := (hwf.2.1 1 j0 54 _ (kp_r hkb hkp e30) (by decide) hj0)
    refine me_opt (j := j29) (kp_r hkb hkp e30) ?_
    refine lv_sipush (v := 30077) hx hb d_M_logic_189 (by decide) ?_
    refine lv_aload_n hx hb d_M_logic_192 rfl (lv_at hl 0 rfl) ?_
    refine g_M_54 hx hb hts hown hK hP hwf hj0 (hts _ u_1795) d_M_logic_193 ?_
    refine me_opt (j := j29) (kp_r hkb hkp e30) ?_
    refine lv_sipush (v := 30075) hx hb d_M_logic_196 (by decide) ?_
    obtain ⟨g31, h⟩ := gd_ob h
    refine me_lald hx hb hK hP hwf hj29 (me_in (i := (30075 : Int32)) (k := 30075) (by decide) (by decide) (kp_c hkb.z hkp.z g31)) d_M_logic_199 ?_
    refine fg_topl (y := mL M28 16 j29 30075) (congrArg _ (by decide)) ?_
    refine lv_aload_n hx hb d_M_logic_200 rfl (lv_at hl 0 rfl) ?_
    refine g_M_54 hx hb hts hown hK hP hwf hj0 (hts _ u_1795) d_M_logic_201 ?_
    refine me_opt (j := j29) (kp_r hkb hkp e30) ?_
    refine lv_sipush (v := 30076) hx hb d_M_logic_204 (by decide) ?_
    obtain ⟨g32, h⟩ := gd_ob h
    refine me_lald hx hb hK hP hwf hj29 (me_in (i := (30076 : Int32)) (k := 30076) (by decide) (by decide) (kp_c hkb.z hkp.z g32)) d_M_logic_207 ?_
    refine fg_topl (y := mL M28 16 j29 30076) (congrArg _ (by decide)) ?_
    obtain ⟨r33, er33, h⟩ := bd_ob h
    refine me_panl' (r0 := r33) (fg_runS (wc := []) (tc := []) (A2 := A) (As := [.long (mL M28 16 j29 30075), .long (mL M28 16 j29 30076)]) (rest := [.int 30077, .ref (ad 16 j29)]) ⟨hx, hb, hml, hown, hts⟩ (c_M_greater l D r33 (mL M28 16 j29 30075) (mL M28 16 j29 30076) er33 _) (by show fg_nm y_M_greater 2; decide +kernel) u_2151 u_2152 u_192 u_2153 ⟨Nat.le_of_ble_eq_true rfl, Nat.le_of_ble_eq_true rfl⟩ hX me_P0 (hK.sub (tys' := []) [] rfl) me_D0 rfl hl.1 (Nat.le_of_ble_eq_true rfl) d_M_logic_208 ⟨Nat.le_of_ble_eq_true rfl, Nat.le_of_ble_eq_true rfl⟩) hP hD hK hS hA rfl rfl (fun H locs hw hP hD hS => ?_)
    obtain ⟨g34, h⟩ := gd_ob h
    obtain ⟨M35, eM35, h⟩ := st_ob h
    refine me_last (eM35.trans (by rw [show (30077 : Int32).toNatClampNeg = 30077 by decide])) hx hb hK hP hD hwf hS hj29 (me_in (i := (30077 : Int32)) (k := 30077) (by decide) (by decide) (kp_c hkb.z hkp.z g34)) d_M_logic_211 (fun H locs hP hD hwf hS => ?_)
    have hkp := kp_L eM35 hkp
    refine lv_goto (tgt := 278) hx hb d_M_logic_212 (by decide) ?_
    cases h
    exact fg_retv () hx hb hr hlocks ⟨hwf, hkp⟩ hP (hK.sub (tys' := []) [] rfl) hD hS (Nat.le_of_ble_eq_true rfl) (Nat.le_of_ble_eq_true rfl) d_M_logic_278
  have h := if_t c1 h
  refine lv_aload_n hx hb d_M_logic_5 rfl (lv_at hl 0 rfl) ?_
  refine g_M_52 hx hb hts hown hK hP hwf hj0 (hts _ u_1793) d_M_logic_6 ?_
  obtain ⟨j36, e37, h⟩ := bd_ob h
  have hj36 : j36 < N 16 := (hwf.2.1 1 j0 52 _ e37 (by decide) hj0)
  refine me_opt (j := j36) e37 ?_
  refine lv_sipush (v := 30077) hx hb d_M_logic_9 (by decide) ?_
  refine lv_aload_n hx hb d_M_logic_12 rfl (lv_at hl 0 rfl) ?_
  refine g_M_52 hx hb hts hown hK hP hwf hj0 (hts _ u_1793) d_M_logic_13 ?_
  refine me_opt (j := j36) e37 ?_
  refine lv_sipush (v := 30075) hx hb d_M_logic_16 (by decide) ?_
  obtain ⟨g38, h⟩ := gd_ob h
  refine me_lald hx hb hK hP hwf hj36 (me_in (i := (30075 : Int32)) (k := 30075) (by decide) (by decide) g38) d_M_logic_19 ?_
  refine fg_topl (y := mL M0 16 j36 30075) (congrArg _ (by decide)) ?_
  refine lv_aload_n hx hb d_M_logic_20 rfl (lv_at hl 0 rfl) ?_
  refine g_M_52 hx hb hts hown hK hP hwf hj0 (hts _ u_1793) d_M_logic_21 ?_
  refine me_opt (j := j36) e37 ?_
  refine lv_sipush (v := 30076) hx hb d_M_logic_24 (by decide) ?_
  obtain ⟨g39, h⟩ := gd_ob h
  refine me_lald hx hb hK hP hwf hj36 (me_in (i := (30076 : Int32)) (k := 30076) (by decide) (by decide) g39) d_M_logic_27 ?_
  refine fg_topl (y := mL M0 16 j36 30076) (congrArg _ (by decide)) ?_
  refine lv_land hx hb d_M_logic_28 ?_
  obtain ⟨g40, h⟩ := gd_ob h
  obtain ⟨M41, eM41, h⟩ := st_ob h
  refine me_last (eM41.trans (by rw [show (30077 : Int32).toNatClampNeg = 30077 by decide])) hx hb hK hP hD hwf hS hj36 (me_in (i := (30077 : Int32)) (k := 30077) (by decide) (by decide) g40) d_M_logic_29 (fun H locs hP hD hwf hS => ?_)
  have hkp := kp_L eM41 hkp
  refine lv_aload_n hx hb d_M_logic_30 rfl (lv_at hl 0 rfl) ?_
  refine g_M_53 hx hb hts hown hK hP hwf hj0 (hts _ u_1794) d_M_logic_31 ?_
  obtain ⟨j42, e43, h⟩ := bd_ob h
  have hj42 : j42 < N 16 := (hwf.2.1 1 j0 53 _ (kp_r hkb hkp e43) (by decide) hj0)
  refine me_opt (j := j42) (kp_r hkb hkp e43) ?_
  refine lv_sipush (v := 30077) hx hb d_M_logic_34 (by decide) ?_
  refine lv_aload_n hx hb d_M_logic_37 rfl (lv_at hl 0 rfl) ?_
  refine g_M_52 hx hb hts hown hK hP hwf hj0 (hts _ u_1793) d_M_logic_38 ?_
  refine me_opt (j := j36) (kp_r hkb hkp e37) ?_
  refine lv_sipush (v := 30075) hx hb d_M_logic_41 (by decide) ?_
  refine me_lald hx hb hK hP hwf hj36 (me_in (i := (30075 : Int32)) (k := 30075) (by decide) (by decide) (kp_c hkb.z hkp.z g38)) d_M_logic_44 ?_
  refine fg_topl (y := mL M41 16 j36 30075) (congrArg _ (by decide)) ?_
  refine lv_aload_n hx hb d_M_logic_45 rfl (lv_at hl 0 rfl) ?_
  refine g_M_53 hx hb hts hown hK hP hwf hj0 (hts _ u_1794) d_M_logic_46 ?_
  refine me_opt (j := j42) (kp_r hkb hkp e43) ?_
  refine lv_sipush (v := 30075) hx hb d_M_logic_49 (by decide) ?_
  obtain ⟨g44, h⟩ := gd_ob h
  refine me_lald hx hb hK hP hwf hj42 (me_in (i := (30075 : Int32)) (k := 30075) (by decide) (by decide) (kp_c hkb.z hkp.z g44)) d_M_logic_52 ?_
  refine fg_topl (y := mL M41 16 j42 30075) (congrArg _ (by decide)) ?_
  refine lv_lor hx hb d_M_logic_53 ?_
  refine lv_aload_n hx hb d_M_logic_54 rfl (lv_at hl 0 rfl) ?_
  refine g_M_52 hx hb hts hown hK hP hwf hj0 (hts _ u_1793) d_M_logic_55 ?_
  refine me_opt (j := j36) (kp_r hkb hkp e37) ?_
  refine lv_sipush (v := 30076) hx hb d_M_logic_58 (by decide) ?_
  refine me_lald hx hb hK hP hwf hj36 (me_in (i := (30076 : Int32)) (k := 30076) (by decide) (by decide) (kp_c hkb.z hkp.z g39)) d_M_logic_61 ?_
  refine fg_topl (y := mL M41 16 j36 30076) (congrArg _ (by decide)) ?_
  refine lv_aload_n hx hb d_M_logic_62 rfl (lv_at hl 0 rfl) ?_
  refine g_M_53 hx hb hts hown hK hP hwf hj0 (hts _ u_1794) d_M_logic_63 ?_
  refine me_opt (j := j42) (kp_r hkb hkp e43) ?_
  refine lv_sipush (v := 30076) hx hb d_M_logic_66 (by decide) ?_
  obtain ⟨g45, h⟩ := gd_ob h
  refine me_lald hx hb hK hP hwf hj42 (me_in (i := (30076 : Int32)) (k := 30076) (by decide) (by decide) (kp_c hkb.z hkp.z g45)) d_M_logic_69 ?_
  refine fg_topl (y := mL M41 16 j42 30076) (congrArg _ (by decide)) ?_
  refine lv_lor hx hb d_M_logic_70 ?_
  refine lv_land hx hb d_M_logic_71 ?_
  obtain ⟨v46, ev46, h⟩ := st_ob h
  refine fg_topl (y := v46) ev46.symm ?_
  refine lv_aload_n hx hb d_M_logic_72 rfl (lv_at hl 0 rfl) ?_
  refine g_M_52 hx hb hts hown hK hP hwf hj0 (hts _ u_1793) d_M_logic_73 ?_
  refine me_opt (j := j36) (kp_r hkb hkp e37) ?_
  refine lv_sipush (v := 30077) hx hb d_M_logic_76 (by decide) ?_
  refine me_lald hx hb hK hP hwf hj36 (me_in (i := (30077 : Int32)) (k := 30077) (by decide) (by decide) (kp_c hkb.z hkp.z g40)) d_M_logic_79 ?_
  refine fg_topl (y := mL M41 16 j36 30077) (congrArg _ (by decide)) ?_
  refine lv_ldc2 hx hb hown (hts _ u_2071) d_M_logic_80 ?_
  refine lv_lxor hx hb d_M_logic_83 ?_
  refine lv_land hx hb d_M_logic_84 ?_
  obtain ⟨g47, h⟩ := gd_ob h
  obtain ⟨M48, eM48, h⟩ := st_ob h
  refine me_last (eM48.trans (by rw [show (30077 : Int32).toNatClampNeg = 30077 by decide])) hx hb hK hP hD hwf hS hj42 (me_in (i := (30077 : Int32)) (k := 30077) (by decide) (by decide) (kp_c hkb.z hkp.z g47)) d_M_logic_85 (fun H locs hP hD hwf hS => ?_)
  have hkp := kp_L eM48 hkp
  refine lv_aload_n hx hb d_M_logic_86 rfl (lv_at hl 0 rfl) ?_
  refine g_M_55 hx hb hts hown hK hP hwf hj0 (hts _ u_1796) d_M_logic_87 ?_
  obtain ⟨j49, e50, h⟩ := bd_ob h
  have hj49 : j49 < N 16 := (hwf.2.1 1 j0 55 _ (kp_r hkb hkp e50) (by decide) hj0)
  refine me_opt (j := j49) (kp_r hkb hkp e50) ?_
  refine lv_sipush (v := 30077) hx hb d_M_logic_90 (by decide) ?_
  refine lv_aload_n hx hb d_M_logic_93 rfl (lv_at hl 0 rfl) ?_
  refine g_M_55 hx hb hts hown hK hP hwf hj0 (hts _ u_1796) d_M_logic_94 ?_
  refine me_opt (j := j49) (kp_r hkb hkp e50) ?_
  refine lv_sipush (v := 30075) hx hb d_M_logic_97 (by decide) ?_
  obtain ⟨g51, h⟩ := gd_ob h
  refine me_lald hx hb hK hP hwf hj49 (me_in (i := (30075 : Int32)) (k := 30075) (by decide) (by decide) (kp_c hkb.z hkp.z g51)) d_M_logic_100 ?_
  refine fg_topl (y := mL M48 16 j49 30075) (congrArg _ (by decide)) ?_
  refine lv_aload_n hx hb d_M_logic_101 rfl (lv_at hl 0 rfl) ?_
  refine g_M_55 hx hb hts hown hK hP hwf hj0 (hts _ u_1796) d_M_logic_102 ?_
  refine me_opt (j := j49) (kp_r hkb hkp e50) ?_
  refine lv_sipush (v := 30076) hx hb d_M_logic_105 (by decide) ?_
  obtain ⟨g52, h⟩ := gd_ob h
  refine me_lald hx hb hK hP hwf hj49 (me_in (i := (30076 : Int32)) (k := 30076) (by decide) (by decide) (kp_c hkb.z hkp.z g52)) d_M_logic_108 ?_
  refine fg_topl (y := mL M48 16 j49 30076) (congrArg _ (by decide)) ?_
  obtain ⟨r53, er53, h⟩ := bd_ob h
  refine me_panl' (r0 := r53) (fg_runS (wc := []) (tc := []) (A2 := A) (As := [.long (mL M48 16 j49 30075), .long (mL M48 16 j49 30076)]) (rest := [.int 30077, .ref (ad 16 j49)]) ⟨hx, hb, hml, hown, hts⟩ (c_M_lesser l D r53 (mL M48 16 j49 30075) (mL M48 16 j49 30076) er53 _) (by show fg_nm y_M_lesser 2; decide +kernel) u_2154 u_2155 u_192 u_2156 ⟨Nat.le_of_ble_eq_true rfl, Nat.le_of_ble_eq_true rfl⟩ hX me_P0 (hK.sub (tys' := []) [] rfl) me_D0 rfl hl.1 (Nat.le_of_ble_eq_true rfl) d_M_logic_109 ⟨Nat.le_of_ble_eq_true rfl, Nat.le_of_ble_eq_true rfl⟩) hP hD hK hS hA rfl rfl (fun H locs hw hP hD hS => ?_)
  obtain ⟨g54, h⟩ := gd_ob h
  obtain ⟨M55, eM55, h⟩ := st_ob h
  refine me_last (eM55.trans (by rw [show (30077 : Int32).toNatClampNeg = 30077 by decide])) hx hb hK hP hD hwf hS hj49 (me_in (i := (30077 : Int32)) (k := 30077) (by decide) (by decide) (kp_c hkb.z hkp.z g54)) d_M_logic_112 (fun H locs hP hD hwf hS => ?_)
  have hkp := kp_L eM55 hkp
  refine lv_goto (tgt := 278) hx hb d_M_logic_113 (by decide) ?_
  cases h
  exact fg_retv () hx hb hr hlocks ⟨hwf, hkp⟩ hP (hK.sub (tys' := []) [] rfl) hD hS (Nat.le_of_ble_eq_true rfl) (Nat.le_of_ble_eq_true rfl) d_M_logic_278
