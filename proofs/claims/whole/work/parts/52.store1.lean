abbrev y_Store_isKey : MethodName := ⟨"FilterGuard$Store", "isKey", "(I[BI)Z"⟩
theorem d_Store_isKey_0 : decode prog_12_method_3_code 0 = .ok (.iconst 0, 1) := by decide +kernel
theorem d_Store_isKey_1 : decode prog_12_method_3_code 1 = .ok (.istore 4, 2) := by decide +kernel
theorem d_Store_isKey_3 : decode prog_12_method_3_code 3 = .ok (.iload 4, 2) := by decide +kernel
theorem d_Store_isKey_5 : decode prog_12_method_3_code 5 = .ok (.aload_n 0, 1) := by decide +kernel
theorem d_Store_isKey_6 : decode prog_12_method_3_code 6 = .ok (.getfield 15, 3) := by decide +kernel
theorem d_Store_isKey_9 : decode prog_12_method_3_code 9 = .ok (.if_icmp .ge 34, 3) := by decide +kernel
theorem d_Store_isKey_43 : decode prog_12_method_3_code 43 = .ok (.iconst 1, 1) := by decide +kernel
theorem d_Store_isKey_44 : decode prog_12_method_3_code 44 = .ok (.ireturn, 1) := by decide +kernel
theorem d_Store_isKey_12 : decode prog_12_method_3_code 12 = .ok (.aload_n 0, 1) := by decide +kernel
theorem d_Store_isKey_13 : decode prog_12_method_3_code 13 = .ok (.getfield 25, 3) := by decide +kernel
theorem d_Store_isKey_16 : decode prog_12_method_3_code 16 = .ok (.iload_n 1, 1) := by decide +kernel
theorem d_Store_isKey_17 : decode prog_12_method_3_code 17 = .ok (.aload_n 0, 1) := by decide +kernel
theorem d_Store_isKey_18 : decode prog_12_method_3_code 18 = .ok (.getfield 15, 3) := by decide +kernel
theorem d_Store_isKey_21 : decode prog_12_method_3_code 21 = .ok (.imul, 1) := by decide +kernel
theorem d_Store_isKey_22 : decode prog_12_method_3_code 22 = .ok (.iload 4, 2) := by decide +kernel
theorem d_Store_isKey_24 : decode prog_12_method_3_code 24 = .ok (.iadd, 1) := by decide +kernel
theorem d_Store_isKey_25 : decode prog_12_method_3_code 25 = .ok (.baload, 1) := by decide +kernel
theorem d_Store_isKey_26 : decode prog_12_method_3_code 26 = .ok (.aload_n 2, 1) := by decide +kernel
theorem d_Store_isKey_27 : decode prog_12_method_3_code 27 = .ok (.iload_n 3, 1) := by decide +kernel
theorem d_Store_isKey_28 : decode prog_12_method_3_code 28 = .ok (.iload 4, 2) := by decide +kernel
theorem d_Store_isKey_30 : decode prog_12_method_3_code 30 = .ok (.iadd, 1) := by decide +kernel
theorem d_Store_isKey_31 : decode prog_12_method_3_code 31 = .ok (.baload, 1) := by decide +kernel
theorem d_Store_isKey_32 : decode prog_12_method_3_code 32 = .ok (.if_icmp .eq 5, 3) := by decide +kernel
theorem d_Store_isKey_37 : decode prog_12_method_3_code 37 = .ok (.iinc 4 1, 3) := by decide +kernel
theorem d_Store_isKey_40 : decode prog_12_method_3_code 40 = .ok (.goto (-37), 3) := by decide +kernel
theorem d_Store_isKey_35 : decode prog_12_method_3_code 35 = .ok (.iconst 0, 1) := by decide +kernel
theorem d_Store_isKey_36 : decode prog_12_method_3_code 36 = .ok (.ireturn, 1) := by decide +kernel
abbrev y_Store_leastFree : MethodName := ⟨"FilterGuard$Store", "leastFree", "()I"⟩
theorem d_Store_leastFree_0 : decode prog_12_method_4_code 0 = .ok (.iconst 0, 1) := by decide +kernel
theorem d_Store_leastFree_1 : decode prog_12_method_4_code 1 = .ok (.istore_n 1, 1) := by decide +kernel
theorem d_Store_leastFree_2 : decode prog_12_method_4_code 2 = .ok (.iload_n 1, 1) := by decide +kernel
theorem d_Store_leastFree_3 : decode prog_12_method_4_code 3 = .ok (.aload_n 0, 1) := by decide +kernel
theorem d_Store_leastFree_4 : decode prog_12_method_4_code 4 = .ok (.getfield 22, 3) := by decide +kernel
theorem d_Store_leastFree_7 : decode prog_12_method_4_code 7 = .ok (.if_icmp .ge 20, 3) := by decide +kernel
theorem d_Store_leastFree_27 : decode prog_12_method_4_code 27 = .ok (.iconst (-1), 1) := by decide +kernel
theorem d_Store_leastFree_28 : decode prog_12_method_4_code 28 = .ok (.ireturn, 1) := by decide +kernel
theorem d_Store_leastFree_10 : decode prog_12_method_4_code 10 = .ok (.aload_n 0, 1) := by decide +kernel
theorem d_Store_leastFree_11 : decode prog_12_method_4_code 11 = .ok (.getfield 32, 3) := by decide +kernel
theorem d_Store_leastFree_14 : decode prog_12_method_4_code 14 = .ok (.iload_n 1, 1) := by decide +kernel
theorem d_Store_leastFree_15 : decode prog_12_method_4_code 15 = .ok (.baload, 1) := by decide +kernel
theorem d_Store_leastFree_16 : decode prog_12_method_4_code 16 = .ok (.ifCond .ne 5, 3) := by decide +kernel
theorem d_Store_leastFree_21 : decode prog_12_method_4_code 21 = .ok (.iinc 1 1, 3) := by decide +kernel
theorem d_Store_leastFree_24 : decode prog_12_method_4_code 24 = .ok (.goto (-22), 3) := by decide +kernel
theorem d_Store_leastFree_19 : decode prog_12_method_4_code 19 = .ok (.iload_n 1, 1) := by decide +kernel
theorem d_Store_leastFree_20 : decode prog_12_method_4_code 20 = .ok (.ireturn, 1) := by decide +kernel
abbrev y_Store_held : MethodName := ⟨"FilterGuard$Store", "held", "()I"⟩
theorem d_Store_held_0 : decode prog_12_method_7_code 0 = .ok (.iconst 0, 1) := by decide +kernel
theorem d_Store_held_1 : decode prog_12_method_7_code 1 = .ok (.istore_n 1, 1) := by decide +kernel
theorem d_Store_held_2 : decode prog_12_method_7_code 2 = .ok (.iconst 0, 1) := by decide +kernel
theorem d_Store_held_3 : decode prog_12_method_7_code 3 = .ok (.istore_n 2, 1) := by decide +kernel
theorem d_Store_held_4 : decode prog_12_method_7_code 4 = .ok (.iload_n 2, 1) := by decide +kernel
theorem d_Store_held_5 : decode prog_12_method_7_code 5 = .ok (.aload_n 0, 1) := by decide +kernel
theorem d_Store_held_6 : decode prog_12_method_7_code 6 = .ok (.getfield 22, 3) := by decide +kernel
theorem d_Store_held_9 : decode prog_12_method_7_code 9 = .ok (.if_icmp .ge 26, 3) := by decide +kernel
theorem d_Store_held_35 : decode prog_12_method_7_code 35 = .ok (.iload_n 1, 1) := by decide +kernel
theorem d_Store_held_36 : decode prog_12_method_7_code 36 = .ok (.ireturn, 1) := by decide +kernel
theorem d_Store_held_12 : decode prog_12_method_7_code 12 = .ok (.iload_n 1, 1) := by decide +kernel
theorem d_Store_held_13 : decode prog_12_method_7_code 13 = .ok (.aload_n 0, 1) := by decide +kernel
theorem d_Store_held_14 : decode prog_12_method_7_code 14 = .ok (.getfield 32, 3) := by decide +kernel
theorem d_Store_held_17 : decode prog_12_method_7_code 17 = .ok (.iload_n 2, 1) := by decide +kernel
theorem d_Store_held_18 : decode prog_12_method_7_code 18 = .ok (.baload, 1) := by decide +kernel
theorem d_Store_held_19 : decode prog_12_method_7_code 19 = .ok (.ifCond .eq 7, 3) := by decide +kernel
theorem d_Store_held_26 : decode prog_12_method_7_code 26 = .ok (.iconst 0, 1) := by decide +kernel
theorem d_Store_held_22 : decode prog_12_method_7_code 22 = .ok (.iconst 1, 1) := by decide +kernel
theorem d_Store_held_23 : decode prog_12_method_7_code 23 = .ok (.goto 4, 3) := by decide +kernel
theorem d_Store_held_27 : decode prog_12_method_7_code 27 = .ok (.iadd, 1) := by decide +kernel
theorem d_Store_held_28 : decode prog_12_method_7_code 28 = .ok (.istore_n 1, 1) := by decide +kernel
theorem d_Store_held_29 : decode prog_12_method_7_code 29 = .ok (.iinc 2 1, 3) := by decide +kernel
theorem d_Store_held_32 : decode prog_12_method_7_code 32 = .ok (.goto (-28), 3) := by decide +kernel
abbrev y_Store_entryOf : MethodName := ⟨"FilterGuard$Store", "entryOf", "([BI)I"⟩
theorem d_Store_entryOf_0 : decode prog_12_method_2_code 0 = .ok (.aload_n 0, 1) := by decide +kernel
theorem d_Store_entryOf_1 : decode prog_12_method_2_code 1 = .ok (.getfield 11, 3) := by decide +kernel
theorem d_Store_entryOf_4 : decode prog_12_method_2_code 4 = .ok (.ifCond .ne 53, 3) := by decide +kernel
theorem d_Store_entryOf_57 : decode prog_12_method_2_code 57 = .ok (.iconst 0, 1) := by decide +kernel
theorem d_Store_entryOf_58 : decode prog_12_method_2_code 58 = .ok (.istore_n 3, 1) := by decide +kernel
theorem d_Store_entryOf_59 : decode prog_12_method_2_code 59 = .ok (.iload_n 3, 1) := by decide +kernel
theorem d_Store_entryOf_60 : decode prog_12_method_2_code 60 = .ok (.aload_n 0, 1) := by decide +kernel
theorem d_Store_entryOf_61 : decode prog_12_method_2_code 61 = .ok (.getfield 22, 3) := by decide +kernel
theorem d_Store_entryOf_64 : decode prog_12_method_2_code 64 = .ok (.if_icmp .ge 30, 3) := by decide +kernel
theorem d_Store_entryOf_94 : decode prog_12_method_2_code 94 = .ok (.iconst (-1), 1) := by decide +kernel
theorem d_Store_entryOf_95 : decode prog_12_method_2_code 95 = .ok (.ireturn, 1) := by decide +kernel
theorem d_Store_entryOf_67 : decode prog_12_method_2_code 67 = .ok (.aload_n 0, 1) := by decide +kernel
theorem d_Store_entryOf_68 : decode prog_12_method_2_code 68 = .ok (.getfield 32, 3) := by decide +kernel
theorem d_Store_entryOf_71 : decode prog_12_method_2_code 71 = .ok (.iload_n 3, 1) := by decide +kernel
theorem d_Store_entryOf_72 : decode prog_12_method_2_code 72 = .ok (.baload, 1) := by decide +kernel
theorem d_Store_entryOf_73 : decode prog_12_method_2_code 73 = .ok (.ifCond .eq 15, 3) := by decide +kernel
theorem d_Store_entryOf_88 : decode prog_12_method_2_code 88 = .ok (.iinc 3 1, 3) := by decide +kernel
theorem d_Store_entryOf_91 : decode prog_12_method_2_code 91 = .ok (.goto (-32), 3) := by decide +kernel
theorem d_Store_entryOf_76 : decode prog_12_method_2_code 76 = .ok (.aload_n 0, 1) := by decide +kernel
theorem d_Store_entryOf_77 : decode prog_12_method_2_code 77 = .ok (.iload_n 3, 1) := by decide +kernel
theorem d_Store_entryOf_78 : decode prog_12_method_2_code 78 = .ok (.aload_n 1, 1) := by decide +kernel
theorem d_Store_entryOf_79 : decode prog_12_method_2_code 79 = .ok (.iload_n 2, 1) := by decide +kernel
theorem d_Store_entryOf_80 : decode prog_12_method_2_code 80 = .ok (.invokevirtual 36, 3) := by decide +kernel
theorem u_1530 : Cond.methodLink "FilterGuard$Store" 36 ⟨"FilterGuard$Store", "isKey", "(I[BI)Z"⟩ ∈ fg_g := fg_in (List.mem_of_getElem? (i := 1530) (by decide +kernel)) rfl
theorem u_1533 : Cond.code ⟨"FilterGuard$Store", "isKey", "(I[BI)Z"⟩ prog_12_method_3_code 5 (some .boolean) ∈ fg_g := fg_in (List.mem_of_getElem? (i := 1533) (by decide +kernel)) rfl
theorem u_1532 : Cond.instanceMethod ⟨"FilterGuard$Store", "isKey", "(I[BI)Z"⟩ ∈ fg_g := fg_in (List.mem_of_getElem? (i := 1532) (by decide +kernel)) rfl
theorem u_61 : Cond.selects "FilterGuard$Store" ⟨"FilterGuard$Store", "isKey", "(I[BI)Z"⟩ ⟨"FilterGuard$Store", "isKey", "(I[BI)Z"⟩ ∈ fg_g := fg_in (List.mem_of_getElem? (i := 61) (by decide +kernel)) rfl
theorem d_Store_entryOf_83 : decode prog_12_method_2_code 83 = .ok (.ifCond .eq 5, 3) := by decide +kernel
theorem d_Store_entryOf_86 : decode prog_12_method_2_code 86 = .ok (.iload_n 3, 1) := by decide +kernel
theorem d_Store_entryOf_87 : decode prog_12_method_2_code 87 = .ok (.ireturn, 1) := by decide +kernel
theorem d_Store_entryOf_7 : decode prog_12_method_2_code 7 = .ok (.lconst 0, 1) := by decide +kernel
theorem d_Store_entryOf_8 : decode prog_12_method_2_code 8 = .ok (.lstore_n 3, 1) := by decide +kernel
theorem d_Store_entryOf_9 : decode prog_12_method_2_code 9 = .ok (.iconst 3, 1) := by decide +kernel
theorem d_Store_entryOf_10 : decode prog_12_method_2_code 10 = .ok (.istore 5, 2) := by decide +kernel
theorem d_Store_entryOf_12 : decode prog_12_method_2_code 12 = .ok (.iload 5, 2) := by decide +kernel
theorem d_Store_entryOf_14 : decode prog_12_method_2_code 14 = .ok (.ifCond .lt 26, 3) := by decide +kernel
theorem d_Store_entryOf_17 : decode prog_12_method_2_code 17 = .ok (.lload_n 3, 1) := by decide +kernel
theorem d_Store_entryOf_18 : decode prog_12_method_2_code 18 = .ok (.bipush 8, 2) := by decide +kernel
theorem d_Store_entryOf_20 : decode prog_12_method_2_code 20 = .ok (.lshl, 1) := by decide +kernel
theorem d_Store_entryOf_21 : decode prog_12_method_2_code 21 = .ok (.aload_n 1, 1) := by decide +kernel
theorem d_Store_entryOf_22 : decode prog_12_method_2_code 22 = .ok (.iload_n 2, 1) := by decide +kernel
theorem d_Store_entryOf_23 : decode prog_12_method_2_code 23 = .ok (.iload 5, 2) := by decide +kernel
theorem d_Store_entryOf_25 : decode prog_12_method_2_code 25 = .ok (.iadd, 1) := by decide +kernel
theorem d_Store_entryOf_26 : decode prog_12_method_2_code 26 = .ok (.baload, 1) := by decide +kernel
theorem d_Store_entryOf_27 : decode prog_12_method_2_code 27 = .ok (.sipush 255, 3) := by decide +kernel
theorem d_Store_entryOf_30 : decode prog_12_method_2_code 30 = .ok (.iand, 1) := by decide +kernel
theorem d_Store_entryOf_31 : decode prog_12_method_2_code 31 = .ok (.i2l, 1) := by decide +kernel
theorem d_Store_entryOf_32 : decode prog_12_method_2_code 32 = .ok (.lor, 1) := by decide +kernel
theorem d_Store_entryOf_33 : decode prog_12_method_2_code 33 = .ok (.lstore_n 3, 1) := by decide +kernel
theorem d_Store_entryOf_34 : decode prog_12_method_2_code 34 = .ok (.iinc 5 (-1), 3) := by decide +kernel
theorem d_Store_entryOf_37 : decode prog_12_method_2_code 37 = .ok (.goto (-25), 3) := by decide +kernel
theorem d_Store_entryOf_40 : decode prog_12_method_2_code 40 = .ok (.lload_n 3, 1) := by decide +kernel
theorem d_Store_entryOf_41 : decode prog_12_method_2_code 41 = .ok (.aload_n 0, 1) := by decide +kernel
theorem d_Store_entryOf_42 : decode prog_12_method_2_code 42 = .ok (.getfield 22, 3) := by decide +kernel
theorem d_Store_entryOf_45 : decode prog_12_method_2_code 45 = .ok (.i2l, 1) := by decide +kernel
theorem d_Store_entryOf_46 : decode prog_12_method_2_code 46 = .ok (.lcmp, 1) := by decide +kernel
theorem d_Store_entryOf_47 : decode prog_12_method_2_code 47 = .ok (.ifCond .ge 8, 3) := by decide +kernel
theorem d_Store_entryOf_55 : decode prog_12_method_2_code 55 = .ok (.iconst (-1), 1) := by decide +kernel
theorem d_Store_entryOf_56 : decode prog_12_method_2_code 56 = .ok (.ireturn, 1) := by decide +kernel
theorem d_Store_entryOf_50 : decode prog_12_method_2_code 50 = .ok (.lload_n 3, 1) := by decide +kernel
theorem d_Store_entryOf_51 : decode prog_12_method_2_code 51 = .ok (.l2i, 1) := by decide +kernel
theorem d_Store_entryOf_52 : decode prog_12_method_2_code 52 = .ok (.goto 4, 3) := by decide +kernel
abbrev y_Store_hasByte : MethodName := ⟨"FilterGuard$Store", "hasByte", "(II)Z"⟩
theorem d_Store_hasByte_0 : decode prog_12_method_8_code 0 = .ok (.iload_n 2, 1) := by decide +kernel
theorem d_Store_hasByte_1 : decode prog_12_method_8_code 1 = .ok (.bipush 100, 2) := by decide +kernel
theorem d_Store_hasByte_3 : decode prog_12_method_8_code 3 = .ok (.if_icmp .lt 18, 3) := by decide +kernel
theorem d_Store_hasByte_21 : decode prog_12_method_8_code 21 = .ok (.iconst 0, 1) := by decide +kernel
theorem d_Store_hasByte_6 : decode prog_12_method_8_code 6 = .ok (.iload_n 2, 1) := by decide +kernel
theorem d_Store_hasByte_7 : decode prog_12_method_8_code 7 = .ok (.bipush 100, 2) := by decide +kernel
theorem d_Store_hasByte_9 : decode prog_12_method_8_code 9 = .ok (.aload_n 0, 1) := by decide +kernel
theorem d_Store_hasByte_10 : decode prog_12_method_8_code 10 = .ok (.getfield 15, 3) := by decide +kernel
theorem d_Store_hasByte_13 : decode prog_12_method_8_code 13 = .ok (.iadd, 1) := by decide +kernel
theorem d_Store_hasByte_14 : decode prog_12_method_8_code 14 = .ok (.if_icmp .ge 7, 3) := by decide +kernel
theorem d_Store_hasByte_17 : decode prog_12_method_8_code 17 = .ok (.iconst 1, 1) := by decide +kernel
theorem d_Store_hasByte_18 : decode prog_12_method_8_code 18 = .ok (.goto 4, 3) := by decide +kernel
theorem d_Store_hasByte_22 : decode prog_12_method_8_code 22 = .ok (.istore_n 3, 1) := by decide +kernel
theorem d_Store_hasByte_23 : decode prog_12_method_8_code 23 = .ok (.iload_n 2, 1) := by decide +kernel
theorem d_Store_hasByte_24 : decode prog_12_method_8_code 24 = .ok (.ifCond .eq 42, 3) := by decide +kernel
theorem d_Store_hasByte_66 : decode prog_12_method_8_code 66 = .ok (.iconst 1, 1) := by decide +kernel
theorem d_Store_hasByte_67 : decode prog_12_method_8_code 67 = .ok (.goto 4, 3) := by decide +kernel
theorem d_Store_hasByte_71 : decode prog_12_method_8_code 71 = .ok (.ireturn, 1) := by decide +kernel
theorem d_Store_hasByte_27 : decode prog_12_method_8_code 27 = .ok (.iload_n 3, 1) := by decide +kernel
theorem d_Store_hasByte_28 : decode prog_12_method_8_code 28 = .ok (.ifCond .eq 19, 3) := by decide +kernel
theorem d_Store_hasByte_47 : decode prog_12_method_8_code 47 = .ok (.iload_n 2, 1) := by decide +kernel
theorem d_Store_hasByte_48 : decode prog_12_method_8_code 48 = .ok (.sipush 200, 3) := by decide +kernel
theorem d_Store_hasByte_51 : decode prog_12_method_8_code 51 = .ok (.if_icmp .lt 19, 3) := by decide +kernel
theorem d_Store_hasByte_70 : decode prog_12_method_8_code 70 = .ok (.iconst 0, 1) := by decide +kernel
theorem d_Store_hasByte_54 : decode prog_12_method_8_code 54 = .ok (.iload_n 2, 1) := by decide +kernel
theorem d_Store_hasByte_55 : decode prog_12_method_8_code 55 = .ok (.sipush 200, 3) := by decide +kernel
theorem d_Store_hasByte_58 : decode prog_12_method_8_code 58 = .ok (.aload_n 0, 1) := by decide +kernel
theorem d_Store_hasByte_59 : decode prog_12_method_8_code 59 = .ok (.getfield 19, 3) := by decide +kernel
theorem d_Store_hasByte_62 : decode prog_12_method_8_code 62 = .ok (.iadd, 1) := by decide +kernel
theorem d_Store_hasByte_63 : decode prog_12_method_8_code 63 = .ok (.if_icmp .ge 7, 3) := by decide +kernel
theorem d_Store_hasByte_31 : decode prog_12_method_8_code 31 = .ok (.aload_n 0, 1) := by decide +kernel
theorem d_Store_hasByte_32 : decode prog_12_method_8_code 32 = .ok (.getfield 11, 3) := by decide +kernel
theorem d_Store_hasByte_35 : decode prog_12_method_8_code 35 = .ok (.ifCond .eq 12, 3) := by decide +kernel
theorem d_Store_hasByte_38 : decode prog_12_method_8_code 38 = .ok (.aload_n 0, 1) := by decide +kernel
theorem d_Store_hasByte_39 : decode prog_12_method_8_code 39 = .ok (.getfield 32, 3) := by decide +kernel
theorem d_Store_hasByte_42 : decode prog_12_method_8_code 42 = .ok (.iload_n 1, 1) := by decide +kernel
theorem d_Store_hasByte_43 : decode prog_12_method_8_code 43 = .ok (.baload, 1) := by decide +kernel
theorem d_Store_hasByte_44 : decode prog_12_method_8_code 44 = .ok (.ifCond .ne 22, 3) := by decide +kernel
def fx_Store_isKey_l3_r (kb : Nat) (fk : Nat → Int32) (fb : Nat → Int32) (ei : Nat) (fm : Nat) : Nat → Nat → Int32
  | 0 => fun k => 0
  | fu + 1 => fun k => (if kb ≤ k then 1 else (if (fk ((ei * kb) + k)) = (fb (fm + k)) then (fx_Store_isKey_l3_r kb fk fb ei fm fu (k + 1)) else 0))
theorem fx_Store_isKey_l3_r_s (kb : Nat) (fk : Nat → Int32) (fb : Nat → Int32) (ei : Nat) (fm : Nat) (fu : Nat) (k : Nat) : fx_Store_isKey_l3_r kb fk fb ei fm (fu + 1) k = (if kb ≤ k then 1 else (if (fk ((ei * kb) + k)) = (fb (fm + k)) then (fx_Store_isKey_l3_r kb fk fb ei fm fu (k + 1)) else 0)) := rfl
def fx_Store_isKey_r (kb : Nat) (fk : Nat → Int32) (fb : Nat → Int32) (ei : Nat) (fm : Nat) : Int32 := (fx_Store_isKey_l3_r kb fk fb ei fm (kb + 1) 0)
def rm_Store_isKey : Room := { frames := 1, cells := 0, slots := 0, locals := 20 }
abbrev q_Store_isKey (D : va_G) (h0 : Nat) (tb : Int32) (kb : Nat) (vb : Nat) (en : Nat) (s1 : Nat) (s2 : Nat) (s3 : Nat) (c1 : ClassId) (kl : Nat) (fk : Nat → Int32) (h1 : Nat) (c4 : ClassId) (bl : Nat) (fb : Nat → Int32) (ei : Nat) (fm : Nat) (A : Nat → Prop) : Array Value → Jvm.State → Outcome → Jvm.State → Prop := va_Qi (fun (r : Int32) (_ : Unit) => r = (fx_Store_isKey_r kb fk fb ei fm) ∧ (r = 1 ∨ r = 0)) (fg_B D A (fun (_ : Unit) => [(h0, .inr (12, [.int tb, .int (nI kb), .int (nI vb), .int (nI en), .ref s1, .ref s2, .ref s3])), (s1, .inl (c1, kl, .inl fk)), (h1, .inl (c4, bl, .inl fb))]) (fun (_ : Unit) => [])) A
set_option maxHeartbeats 4000000 in
set_option maxRecDepth 100000 in
theorem c_Store_isKey (l : Launch) (D : va_G) (h0 : Nat) (tb : Int32) (kb : Nat) (vb : Nat) (en : Nat) (s1 : Nat) (s2 : Nat) (s3 : Nat) (c1 : ClassId) (kl : Nat) (fk : Nat → Int32) (h1 : Nat) (c4 : ClassId) (bl : Nat) (fb : Nat → Int32) (ei : Nat) (fm : Nat) (sz : Nat) (hen : en ≤ 64) (hkb : kb ≤ 16) (hvb : vb ≤ 64) (hkl : ei * kb + kb ≤ kl) (hk2 : kl < 2 ^ 31) (hbl : fm + kb ≤ bl) (hb2 : bl < 2 ^ 31) : Met l y_Store_isKey (fg_w y_Store_isKey prog_12_method_3_code 5 (some .boolean)) rm_Store_isKey (va_Pc [.ref h0, .int (nI ei), .ref h1, .int (nI fm)] (fg_P D [(c1, .byte), (c4, .byte)] [(h0, .inr (12, [.int tb, .int (nI kb), .int (nI vb), .int (nI en), .ref s1, .ref s2, .ref s3])), (s1, .inl (c1, kl, .inl fk)), (h1, .inl (c4, bl, .inl fb))] sz)) (q_Store_isKey D h0 tb kb vb en s1 s2 s3 c1 kl fk h1 c4 bl fb ei fm (va_A [(h0, .inr (12, [.int tb, .int (nI kb), .int (nI vb), .int (nI en), .ref s1, .ref s2, .ref s3])), (s1, .inl (c1, kl, .inl fk)), (h1, .inl (c4, bl, .inl fb))] sz)) rm_Store_isKey.cells rm_Store_isKey.slots (va_A [(h0, .inr (12, [.int tb, .int (nI kb), .int (nI vb), .int (nI en), .ref s1, .ref s2, .ref s3])), (s1, .inl (c1, kl, .inl fk)), (h1, .inl (c4, bl, .inl fb))] sz) := by
  refine fg_enter (fun A => q_Store_isKey D h0 tb kb vb en s1 s2 s3 c1 kl fk h1 c4 bl fb ei fm A) (by decide +kernel) (Nat.le_of_ble_eq_true rfl) ?_
  intro p e s m below meth c ls A hx hb hml hown hts hr hlocks hin hP hK hD hS hA hX hl
  have hl : lv_has ls 5 [(0, .ref h0), (1, .int (nI ei)), (2, .ref h1), (3, .int (nI fm))] := hl
  refine lv_iconst (v := 0) hx hb d_Store_isKey_0 (by decide) ?_
  refine lv_istore (lv' := [(4, .int 0), (0, .ref h0), (1, .int (nI ei)), (2, .ref h1), (3, .int (nI fm))]) hx hb d_Store_isKey_1 hl (by decide) rfl (fun ls hl => ?_)
  have loop3 : ∀ (nq : Nat) (k : Nat) (H : Heap) (locs : List Loc) (ls : Array Slot), k ≤ kb → (fx_Store_isKey_r kb fk fb ei fm) = fx_Store_isKey_l3_r kb fk fb ei fm nq k → kb - k < nq → va_P D classes [(h0, .inr (12, [.int tb, .int (nI kb), .int (nI vb), .int (nI en), .ref s1, .ref s2, .ref s3])), (s1, .inl (c1, kl, .inl fk)), (h1, .inl (c4, bl, .inl fb))] H → va_D A [(h0, .inr (12, [.int tb, .int (nI kb), .int (nI vb), .int (nI en), .ref s1, .ref s2, .ref s3])), (s1, .inl (c1, kl, .inl fk)), (h1, .inl (c4, bl, .inl fb))] → va_S A s.heap H locs → lv_has ls 5 [(4, .int (nI k)), (0, .ref h0), (1, .int (nI ei)), (2, .ref h1), (3, .int (nI fm))] → W p l e rm_Store_isKey s m [.ref h0, .int (nI ei), .ref h1, .int (nI fm)].toArray below meth c H locs (0) (0) (MQ below (q_Store_isKey D h0 tb kb vb en s1 s2 s3 c1 kl fk h1 c4 bl fb ei fm A) [.ref h0, .int (nI ei), .ref h1, .int (nI fm)].toArray s rm_Store_isKey.cells rm_Store_isKey.slots A) (F0 m 3 ls []) := by
    intro nq
    induction nq with
    | zero => intro k H locs ls hk hsp0 hnq; exact absurd hnq (Nat.not_lt_zero _)
    | succ nq ih =>
      intro k H locs ls hk hsp0 hnq hP hD hS hl
      refine lv_iload hx hb d_Store_isKey_3 (lv_at hl 0 rfl) ?_
      refine lv_aload_n hx hb d_Store_isKey_5 rfl (lv_at hl 1 rfl) ?_
      refine va_get (D := D) (ci := 12) (v := .int (nI kb)) (C := "FilterGuard$Store") (T := F_Store) (N := 7) hx hb hts i_Store hown hK hP 0 rfl rfl 1 (by decide) (hts _ u_901) (fun _ h9 => h9) rfl d_Store_isKey_6 ?_
      refine lv_icmp_ge (tgt := 43) hx hb d_Store_isKey_9 (by decide) (fun c_1 => ?_) (fun c_1 => ?_)
      · have gc_1 : kb ≤ k := (nI_leI (by omega) (by omega)).mp c_1
        refine lv_iconst (v := 1) hx hb d_Store_isKey_43 (by decide) ?_
        exact fg_retz () hx hb hr hlocks rfl ⟨(by rw [hsp0, fx_Store_isKey_l3_r_s]; (repeat rw [if_pos gc_1]); first | done | rfl | contradiction), (Or.inl rfl)⟩ (hP.sub (ws' := [(h0, .inr (12, [.int tb, .int (nI kb), .int (nI vb), .int (nI en), .ref s1, .ref s2, .ref s3])), (s1, .inl (c1, kl, .inl fk)), (h1, .inl (c4, bl, .inl fb))]) [0, 1, 2] rfl) (hK.sub (tys' := []) [] rfl) (hD.sub (ws' := [(h0, .inr (12, [.int tb, .int (nI kb), .int (nI vb), .int (nI en), .ref s1, .ref s2, .ref s3])), (s1, .inl (c1, kl, .inl fk)), (h1, .inl (c4, bl, .inl fb))]) [0, 1, 2] (by decide) rfl) hS (Nat.le_of_ble_eq_true rfl) (Nat.le_of_ble_eq_true rfl) d_Store_isKey_44
      · have gc_1 : ¬ kb ≤ k := fun z9 => c_1 ((nI_leI (by omega) (by omega)).mpr z9)
        refine lv_aload_n hx hb d_Store_isKey_12 rfl (lv_at hl 1 rfl) ?_
        refine va_get (D := D) (ci := 12) (v := .ref s1) (C := "FilterGuard$Store") (T := F_Store) (N := 7) hx hb hts i_Store hown hK hP 0 rfl rfl 4 (by decide) (hts _ u_914) (fun _ h9 => h9) rfl d_Store_isKey_13 ?_
        refine lv_iload_n hx hb d_Store_isKey_16 rfl (lv_at hl 2 rfl) ?_
        refine lv_aload_n hx hb d_Store_isKey_17 rfl (lv_at hl 1 rfl) ?_
        refine va_get (D := D) (ci := 12) (v := .int (nI kb)) (C := "FilterGuard$Store") (T := F_Store) (N := 7) hx hb hts i_Store hown hK hP 0 rfl rfl 1 (by decide) (hts _ u_901) (fun _ h9 => h9) rfl d_Store_isKey_18 ?_
        refine lv_imul hx hb d_Store_isKey_21 ?_
        refine fg_topi (y := nI (ei * kb)) (pk_mul ei kb) ?_
        refine lv_iload hx hb d_Store_isKey_22 (lv_at hl 0 rfl) ?_
        refine lv_iadd hx hb d_Store_isKey_24 ?_
        refine fg_topi (y := nI ((ei * kb) + k)) (nI_add (ei * kb) k) ?_
        have hi9 := (show (ei * kb) + k < kl by omega)
        refine va_bald hx hb hK hP 1 0 rfl rfl (nI_in (show (ei * kb) + k < kl by omega) (by omega)) d_Store_isKey_25 ?_
        refine fg_topi (y := fk ((ei * kb) + k)) (by rw [nI_clamp (by omega)]) ?_
        refine lv_aload_n hx hb d_Store_isKey_26 rfl (lv_at hl 3 rfl) ?_
        refine lv_iload_n hx hb d_Store_isKey_27 rfl (lv_at hl 4 rfl) ?_
        refine lv_iload hx hb d_Store_isKey_28 (lv_at hl 0 rfl) ?_
        refine lv_iadd hx hb d_Store_isKey_30 ?_
        refine fg_topi (y := nI (fm + k)) (nI_add fm k) ?_
        have hi9 := (show fm + k < bl by omega)
        refine va_bald hx hb hK hP 2 1 rfl rfl (nI_in (show fm + k < bl by omega) (by omega)) d_Store_isKey_31 ?_
        refine fg_topi (y := fb (fm + k)) (by rw [nI_clamp (by omega)]) ?_
        refine lv_icmp_eq (tgt := 37) hx hb d_Store_isKey_32 (by decide) (fun c_2 => ?_) (fun c_2 => ?_)
        · refine lv_iinc (v := nI (k + 1)) (lv' := [(4, .int (nI (k + 1))), (0, .ref h0), (1, .int (nI ei)), (2, .ref h1), (3, .int (nI fm))]) hx hb d_Store_isKey_37 hl (k := 0) rfl (nI_1 _) (by decide) rfl (fun ls hl => ?_)
          refine lv_goto (tgt := 3) hx hb d_Store_isKey_40 (by decide) ?_
          refine W.widen (k := 0) (n := 0) (by omega) (by omega) ?_
          exact ih (k + 1) _ _ _ (by omega) (by rw [hsp0]; rw [fx_Store_isKey_l3_r_s]; (repeat rw [if_neg gc_1]); (repeat rw [if_pos c_2]); first | done | rfl | contradiction) (by omega) (hP.sub (ws' := [(h0, .inr (12, [.int tb, .int (nI kb), .int (nI vb), .int (nI en), .ref s1, .ref s2, .ref s3])), (s1, .inl (c1, kl, .inl fk)), (h1, .inl (c4, bl, .inl fb))]) [0, 1, 2] rfl) (hD.sub (ws' := [(h0, .inr (12, [.int tb, .int (nI kb), .int (nI vb), .int (nI en), .ref s1, .ref s2, .ref s3])), (s1, .inl (c1, kl, .inl fk)), (h1, .inl (c4, bl, .inl fb))]) [0, 1, 2] (by decide) rfl) hS (lv_sub hl [0, 1, 2, 3, 4] rfl)
        · refine lv_iconst (v := 0) hx hb d_Store_isKey_35 (by decide) ?_
          exact fg_retz () hx hb hr hlocks rfl ⟨(by rw [hsp0, fx_Store_isKey_l3_r_s]; (repeat rw [if_neg gc_1]); (repeat rw [if_neg c_2]); first | done | rfl | contradiction), (Or.inr rfl)⟩ (hP.sub (ws' := [(h0, .inr (12, [.int tb, .int (nI kb), .int (nI vb), .int (nI en), .ref s1, .ref s2, .ref s3])), (s1, .inl (c1, kl, .inl fk)), (h1, .inl (c4, bl, .inl fb))]) [0, 1, 2] rfl) (hK.sub (tys' := []) [] rfl) (hD.sub (ws' := [(h0, .inr (12, [.int tb, .int (nI kb), .int (nI vb), .int (nI en), .ref s1, .ref s2, .ref s3])), (s1, .inl (c1, kl, .inl fk)), (h1, .inl (c4, bl, .inl fb))]) [0, 1, 2] (by decide) rfl) hS (Nat.le_of_ble_eq_true rfl) (Nat.le_of_ble_eq_true rfl) d_Store_isKey_36
  refine W.widen (k := 0) (n := 0) (by omega) (by omega) ?_
  exact loop3 (kb + 1) 0 _ _ _ (by omega) (by unfold fx_Store_isKey_r; first | done | rfl | contradiction) (by omega) (hP.sub (ws' := [(h0, .inr (12, [.int tb, .int (nI kb), .int (nI vb), .int (nI en), .ref s1, .ref s2, .ref s3])), (s1, .inl (c1, kl, .inl fk)), (h1, .inl (c4, bl, .inl fb))]) [0, 1, 2] rfl) (hD.sub (ws' := [(h0, .inr (12, [.int tb, .int (nI kb), .int (nI vb), .int (nI en), .ref s1, .ref s2, .ref s3])), (s1, .inl (c1, kl, .inl fk)), (h1, .inl (c4, bl, .inl fb))]) [0, 1, 2] (by decide) rfl) hS (lv_sub hl [0, 1, 2, 3, 4] rfl)
def fx_Store_leastFree_l2_r (en : Nat) (ft : Nat → Int32) : Nat → Nat → Int32
  | 0 => fun k => 0
  | fu + 1 => fun k => (if en ≤ k then (-1) else (if (ft k) = 0 then (nI k) else (fx_Store_leastFree_l2_r en ft fu (k + 1))))
theorem fx_Store_leastFree_l2_r_s (en : Nat) (ft : Nat → Int32) (fu : Nat) (k : Nat) : fx_Store_leastFree_l2_r en ft (fu + 1) k = (if en ≤ k then (-1) else (if (ft k) = 0 then (nI k) else (fx_Store_leastFree_l2_r en ft fu (k + 1)))) := rfl
def fx_Store_leastFree_r (en : Nat) (ft : Nat → Int32) : Int32 := (fx_Store_leastFree_l2_r en ft (en + 1) 0)
def rm_Store_leastFree : Room := { frames := 1, cells := 0, slots := 0, locals := 20 }
abbrev q_Store_leastFree (D : va_G) (h0 : Nat) (tb : Int32) (kb : Nat) (vb : Nat) (en : Nat) (s1 : Nat) (s2 : Nat) (s3 : Nat) (c3 : ClassId) (ft : Nat → Int32) (A : Nat → Prop) : Array Value → Jvm.State → Outcome → Jvm.State → Prop := va_Qi (fun (r : Int32) (_ : Unit) => r = (fx_Store_leastFree_r en ft)) (fg_B D A (fun (_ : Unit) => [(h0, .inr (12, [.int tb, .int (nI kb), .int (nI vb), .int (nI en), .ref s1, .ref s2, .ref s3])), (s3, .inl (c3, en, .inl ft))]) (fun (_ : Unit) => [])) A
set_option maxHeartbeats 4000000 in
set_option maxRecDepth 100000 in
theorem c_Store_leastFree (l : Launch) (D : va_G) (h0 : Nat) (tb : Int32) (kb : Nat) (vb : Nat) (en : Nat) (s1 : Nat) (s2 : Nat) (s3 : Nat) (c3 : ClassId) (ft : Nat → Int32) (sz : Nat) (hen : en ≤ 64) (hkb : kb ≤ 16) (hvb : vb ≤ 64) : Met l y_Store_leastFree (fg_w y_Store_leastFree prog_12_method_4_code 2 (some .int)) rm_Store_leastFree (va_Pc [.ref h0] (fg_P D [(c3, .boolean)] [(h0, .inr (12, [.int tb, .int (nI kb), .int (nI vb), .int (nI en), .ref s1, .ref s2, .ref s3])), (s3, .inl (c3, en, .inl ft))] sz)) (q_Store_leastFree D h0 tb kb vb en s1 s2 s3 c3 ft (va_A [(h0, .inr (12, [.int tb, .int (nI kb), .int (nI vb), .int (nI en), .ref s1, .ref s2, .ref s3])), (s3, .inl (c3, en, .inl ft))] sz)) rm_Store_leastFree.cells rm_Store_leastFree.slots (va_A [(h0, .inr (12, [.int tb, .int (nI kb), .int (nI vb), .int (nI en), .ref s1, .ref s2, .ref s3])), (s3, .inl (c3, en, .inl ft))] sz) := by
  refine fg_enter (fun A => q_Store_leastFree D h0 tb kb vb en s1 s2 s3 c3 ft A) (by decide +kernel) (Nat.le_of_ble_eq_true rfl) ?_
  intro p e s m below meth c ls A hx hb hml hown hts hr hlocks hin hP hK hD hS hA hX hl
  have hl : lv_has ls 2 [(0, .ref h0)] := hl
  refine lv_iconst (v := 0) hx hb d_Store_leastFree_0 (by decide) ?_
  refine lv_istore_n (lv' := [(1, .int 0), (0, .ref h0)]) hx hb d_Store_leastFree_1 rfl hl (by decide) rfl (fun ls hl => ?_)
  have loop2 : ∀ (nq : Nat) (k : Nat) (H : Heap) (locs : List Loc) (ls : Array Slot), k ≤ en → (fx_Store_leastFree_r en ft) = fx_Store_leastFree_l2_r en ft nq k → en - k < nq → va_P D classes [(h0, .inr (12, [.int tb, .int (nI kb), .int (nI vb), .int (nI en), .ref s1, .ref s2, .ref s3])), (s3, .inl (c3, en, .inl ft))] H → va_D A [(h0, .inr (12, [.int tb, .int (nI kb), .int (nI vb), .int (nI en), .ref s1, .ref s2, .ref s3])), (s3, .inl (c3, en, .inl ft))] → va_S A s.heap H locs → lv_has ls 2 [(1, .int (nI k)), (0, .ref h0)] → W p l e rm_Store_leastFree s m [.ref h0].toArray below meth c H locs (0) (0) (MQ below (q_Store_leastFree D h0 tb kb vb en s1 s2 s3 c3 ft A) [.ref h0].toArray s rm_Store_leastFree.cells rm_Store_leastFree.slots A) (F0 m 2 ls []) := by
    intro nq
    induction nq with
    | zero => intro k H locs ls hk hsp0 hnq; exact absurd hnq (Nat.not_lt_zero _)
    | succ nq ih =>
      intro k H locs ls hk hsp0 hnq hP hD hS hl
      refine lv_iload_n hx hb d_Store_leastFree_2 rfl (lv_at hl 0 rfl) ?_
      refine lv_aload_n hx hb d_Store_leastFree_3 rfl (lv_at hl 1 rfl) ?_
      refine va_get (D := D) (ci := 12) (v := .int (nI en)) (C := "FilterGuard$Store") (T := F_Store) (N := 7) hx hb hts i_Store hown hK hP 0 rfl rfl 3 (by decide) (hts _ u_911) (fun _ h9 => h9) rfl d_Store_leastFree_4 ?_
      refine lv_icmp_ge (tgt := 27) hx hb d_Store_leastFree_7 (by decide) (fun c_1 => ?_) (fun c_1 => ?_)
      · have gc_1 : en ≤ k := (nI_leI (by omega) (by omega)).mp c_1
        refine lv_iconst (v := (-1)) hx hb d_Store_leastFree_27 (by decide) ?_
        exact fg_reti () hx hb hr hlocks (by rw [hsp0, fx_Store_leastFree_l2_r_s]; (repeat rw [if_pos gc_1]); first | done | rfl | contradiction) (hP.sub (ws' := [(h0, .inr (12, [.int tb, .int (nI kb), .int (nI vb), .int (nI en), .ref s1, .ref s2, .ref s3])), (s3, .inl (c3, en, .inl ft))]) [0, 1] rfl) (hK.sub (tys' := []) [] rfl) (hD.sub (ws' := [(h0, .inr (12, [.int tb, .int (nI kb), .int (nI vb), .int (nI en), .ref s1, .ref s2, .ref s3])), (s3, .inl (c3, en, .inl ft))]) [0, 1] (by decide) rfl) hS (Nat.le_of_ble_eq_true rfl) (Nat.le_of_ble_eq_true rfl) d_Store_leastFree_28
      · have gc_1 : ¬ en ≤ k := fun z9 => c_1 ((nI_leI (by omega) (by omega)).mpr z9)
        refine lv_aload_n hx hb d_Store_leastFree_10 rfl (lv_at hl 1 rfl) ?_
        refine va_get (D := D) (ci := 12) (v := .ref s3) (C := "FilterGuard$Store") (T := F_Store) (N := 7) hx hb hts i_Store hown hK hP 0 rfl rfl 6 (by decide) (hts _ u_917) (fun _ h9 => h9) rfl d_Store_leastFree_11 ?_
        refine lv_iload_n hx hb d_Store_leastFree_14 rfl (lv_at hl 0 rfl) ?_
        have hi9 := (show k < en by omega)
        refine va_zald hx hb hK hP 1 0 rfl rfl (nI_in (show k < en by omega) (by omega)) d_Store_leastFree_15 ?_
        refine fg_topi (y := ft k) (by rw [nI_clamp (by omega)]) ?_
        refine lv_if_ne (tgt := 21) hx hb d_Store_leastFree_16 (by decide) (fun c_2 => ?_) (fun c_2 => ?_)
        · refine lv_iinc (v := nI (k + 1)) (lv' := [(1, .int (nI (k + 1))), (0, .ref h0)]) hx hb d_Store_leastFree_21 hl (k := 0) rfl (nI_1 _) (by decide) rfl (fun ls hl => ?_)
          refine lv_goto (tgt := 2) hx hb d_Store_leastFree_24 (by decide) ?_
          refine W.widen (k := 0) (n := 0) (by omega) (by omega) ?_
          exact ih (k + 1) _ _ _ (by omega) (by rw [hsp0]; rw [fx_Store_leastFree_l2_r_s]; (repeat rw [if_neg gc_1]); (repeat rw [if_neg c_2]); first | done | rfl | contradiction) (by omega) (hP.sub (ws' := [(h0, .inr (12, [.int tb, .int (nI kb), .int (nI vb), .int (nI en), .ref s1, .ref s2, .ref s3])), (s3, .inl (c3, en, .inl ft))]) [0, 1] rfl) (hD.sub (ws' := [(h0, .inr (12, [.int tb, .int (nI kb), .int (nI vb), .int (nI en), .ref s1, .ref s2, .ref s3])), (s3, .inl (c3, en, .inl ft))]) [0, 1] (by decide) rfl) hS (lv_sub hl [0, 1] rfl)
        · refine lv_iload_n hx hb d_Store_leastFree_19 rfl (lv_at hl 0 rfl) ?_
          exact fg_reti () hx hb hr hlocks (by rw [hsp0, fx_Store_leastFree_l2_r_s]; (repeat rw [if_neg gc_1]); (repeat rw [if_pos c_2]); first | done | rfl | contradiction) (hP.sub (ws' := [(h0, .inr (12, [.int tb, .int (nI kb), .int (nI vb), .int (nI en), .ref s1, .ref s2, .ref s3])), (s3, .inl (c3, en, .inl ft))]) [0, 1] rfl) (hK.sub (tys' := []) [] rfl) (hD.sub (ws' := [(h0, .inr (12, [.int tb, .int (nI kb), .int (nI vb), .int (nI en), .ref s1, .ref s2, .ref s3])), (s3, .inl (c3, en, .inl ft))]) [0, 1] (by decide) rfl) hS (Nat.le_of_ble_eq_true rfl) (Nat.le_of_ble_eq_true rfl) d_Store_leastFree_20
  refine W.widen (k := 0) (n := 0) (by omega) (by omega) ?_
  exact loop2 (en + 1) 0 _ _ _ (by omega) (by unfold fx_Store_leastFree_r; first | done | rfl | contradiction) (by omega) (hP.sub (ws' := [(h0, .inr (12, [.int tb, .int (nI kb), .int (nI vb), .int (nI en), .ref s1, .ref s2, .ref s3])), (s3, .inl (c3, en, .inl ft))]) [0, 1] rfl) (hD.sub (ws' := [(h0, .inr (12, [.int tb, .int (nI kb), .int (nI vb), .int (nI en), .ref s1, .ref s2, .ref s3])), (s3, .inl (c3, en, .inl ft))]) [0, 1] (by decide) rfl) hS (lv_sub hl [0, 1] rfl)
def fx_Store_held_j13 (ft : Nat → Int32) (k : Nat) : Int32 := (if (ft k) = 0 then 0 else 1)
def fx_Store_held_l4_r (en : Nat) (ft : Nat → Int32) : Nat → Nat → Int32 → Int32
  | 0 => fun k lo1 => 0
  | fu + 1 => fun k lo1 => (if en ≤ k then lo1 else (fx_Store_held_l4_r en ft fu (k + 1) (lo1 + (fx_Store_held_j13 ft k))))
theorem fx_Store_held_l4_r_s (en : Nat) (ft : Nat → Int32) (fu : Nat) (k : Nat) (lo1 : Int32) : fx_Store_held_l4_r en ft (fu + 1) k lo1 = (if en ≤ k then lo1 else (fx_Store_held_l4_r en ft fu (k + 1) (lo1 + (fx_Store_held_j13 ft k)))) := rfl
def fx_Store_held_r (en : Nat) (ft : Nat → Int32) : Int32 := (fx_Store_held_l4_r en ft (en + 1) 0 0)
def rm_Store_held : Room := { frames := 1, cells := 0, slots := 0, locals := 20 }
abbrev q_Store_held (D : va_G) (h0 : Nat) (tb : Int32) (kb : Nat) (vb : Nat) (en : Nat) (s1 : Nat) (s2 : Nat) (s3 : Nat) (c3 : ClassId) (ft : Nat → Int32) (A : Nat → Prop) : Array Value → Jvm.State → Outcome → Jvm.State → Prop := va_Qi (fun (r : Int32) (_ : Unit) => r = (fx_Store_held_r en ft)) (fg_B D A (fun (_ : Unit) => [(h0, .inr (12, [.int tb, .int (nI kb), .int (nI vb), .int (nI en), .ref s1, .ref s2, .ref s3])), (s3, .inl (c3, en, .inl ft))]) (fun (_ : Unit) => [])) A
set_option maxHeartbeats 4000000 in
set_option maxRecDepth 100000 in
theorem c_Store_held (l : Launch) (D : va_G) (h0 : Nat) (tb : Int32) (kb : Nat) (vb : Nat) (en : Nat) (s1 : Nat) (s2 : Nat) (s3 : Nat) (c3 : ClassId) (ft : Nat → Int32) (sz : Nat) (hen : en ≤ 64) (hkb : kb ≤ 16) (hvb : vb ≤ 64) : Met l y_Store_held (fg_w y_Store_held prog_12_method_7_code 3 (some .int)) rm_Store_held (va_Pc [.ref h0] (fg_P D [(c3, .boolean)] [(h0, .inr (12, [.int tb, .int (nI kb), .int (nI vb), .int (nI en), .ref s1, .ref s2, .ref s3])), (s3, .inl (c3, en, .inl ft))] sz)) (q_Store_held D h0 tb kb vb en s1 s2 s3 c3 ft (va_A [(h0, .inr (12, [.int tb, .int (nI kb), .int (nI vb), .int (nI en), .ref s1, .ref s2, .ref s3])), (s3, .inl (c3, en, .inl ft))] sz)) rm_Store_held.cells rm_Store_held.slots (va_A [(h0, .inr (12, [.int tb, .int (nI kb), .int (nI vb), .int (nI en), .ref s1, .ref s2, .ref s3])), (s3, .inl (c3, en, .inl ft))] sz) := by
  refine fg_enter (fun A => q_Store_held D h0 tb kb vb en s1 s2 s3 c3 ft A) (by decide +kernel) (Nat.le_of_ble_eq_true rfl) ?_
  intro p e s m below meth c ls A hx hb hml hown hts hr hlocks hin hP hK hD hS hA hX hl
  have hl : lv_has ls 3 [(0, .ref h0)] := hl
  refine lv_iconst (v := 0) hx hb d_Store_held_0 (by decide) ?_
  refine lv_istore_n (lv' := [(1, .int 0), (0, .ref h0)]) hx hb d_Store_held_1 rfl hl (by decide) rfl (fun ls hl => ?_)
  refine lv_iconst (v := 0) hx hb d_Store_held_2 (by decide) ?_
  refine lv_istore_n (lv' := [(2, .int 0), (1, .int 0), (0, .ref h0)]) hx hb d_Store_held_3 rfl hl (by decide) rfl (fun ls hl => ?_)
  have loop4 : ∀ (nq : Nat) (k : Nat) (lo1 : Int32) (H : Heap) (locs : List Loc) (ls : Array Slot), k ≤ en → (fx_Store_held_r en ft) = fx_Store_held_l4_r en ft nq k lo1 → en - k < nq → va_P D classes [(h0, .inr (12, [.int tb, .int (nI kb), .int (nI vb), .int (nI en), .ref s1, .ref s2, .ref s3])), (s3, .inl (c3, en, .inl ft))] H → va_D A [(h0, .inr (12, [.int tb, .int (nI kb), .int (nI vb), .int (nI en), .ref s1, .ref s2, .ref s3])), (s3, .inl (c3, en, .inl ft))] → va_S A s.heap H locs → lv_has ls 3 [(2, .int (nI k)), (1, .int lo1), (0, .ref h0)] → W p l e rm_Store_held s m [.ref h0].toArray below meth c H locs (0) (0) (MQ below (q_Store_held D h0 tb kb vb en s1 s2 s3 c3 ft A) [.ref h0].toArray s rm_Store_held.cells rm_Store_held.slots A) (F0 m 4 ls []) := by
    intro nq
    induction nq with
    | zero => intro k lo1 H locs ls hk hsp0 hnq; exact absurd hnq (Nat.not_lt_zero _)
    | succ nq ih =>
      intro k lo1 H locs ls hk hsp0 hnq hP hD hS hl
      refine lv_iload_n hx hb d_Store_held_4 rfl (lv_at hl 0 rfl) ?_
      refine lv_aload_n hx hb d_Store_held_5 rfl (lv_at hl 2 rfl) ?_
      refine va_get (D := D) (ci := 12) (v := .int (nI en)) (C := "FilterGuard$Store") (T := F_Store) (N := 7) hx hb hts i_Store hown hK hP 0 rfl rfl 3 (by decide) (hts _ u_911) (fun _ h9 => h9) rfl d_Store_held_6 ?_
      refine lv_icmp_ge (tgt := 35) hx hb d_Store_held_9 (by decide) (fun c_1 => ?_) (fun c_1 => ?_)
      · have gc_1 : en ≤ k := (nI_leI (by omega) (by omega)).mp c_1
        refine lv_iload_n hx hb d_Store_held_35 rfl (lv_at hl 1 rfl) ?_
        exact fg_reti () hx hb hr hlocks (by rw [hsp0, fx_Store_held_l4_r_s]; (repeat rw [if_pos gc_1]); first | done | rfl | contradiction) (hP.sub (ws' := [(h0, .inr (12, [.int tb, .int (nI kb), .int (nI vb), .int (nI en), .ref s1, .ref s2, .ref s3])), (s3, .inl (c3, en, .inl ft))]) [0, 1] rfl) (hK.sub (tys' := []) [] rfl) (hD.sub (ws' := [(h0, .inr (12, [.int tb, .int (nI kb), .int (nI vb), .int (nI en), .ref s1, .ref s2, .ref s3])), (s3, .inl (c3, en, .inl ft))]) [0, 1] (by decide) rfl) hS (Nat.le_of_ble_eq_true rfl) (Nat.le_of_ble_eq_true rfl) d_Store_held_36
      · have gc_1 : ¬ en ≤ k := fun z9 => c_1 ((nI_leI (by omega) (by omega)).mpr z9)
        refine lv_iload_n hx hb d_Store_held_12 rfl (lv_at hl 1 rfl) ?_
        have j13_1 : ∀ (v13_1 : Int32) (H : Heap) (locs : List Loc) (ls : Array Slot), v13_1 = (fx_Store_held_j13 ft k) → va_P D classes [(h0, .inr (12, [.int tb, .int (nI kb), .int (nI vb), .int (nI en), .ref s1, .ref s2, .ref s3])), (s3, .inl (c3, en, .inl ft))] H → va_D A [(h0, .inr (12, [.int tb, .int (nI kb), .int (nI vb), .int (nI en), .ref s1, .ref s2, .ref s3])), (s3, .inl (c3, en, .inl ft))] → va_S A s.heap H locs → lv_has ls 3 [(2, .int (nI k)), (1, .int lo1), (0, .ref h0)] → W p l e rm_Store_held s m [.ref h0].toArray below meth c H locs (0) (0) (MQ below (q_Store_held D h0 tb kb vb en s1 s2 s3 c3 ft A) [.ref h0].toArray s rm_Store_held.cells rm_Store_held.slots A) (F0 m 27 ls (.int v13_1 :: .int lo1 :: [])) := by
          intro v13_1 H locs ls hv13_1 hP hD hS hl
          subst hv13_1
          refine lv_iadd hx hb d_Store_held_27 ?_
          refine lv_istore_n (lv' := [(1, .int (lo1 + (fx_Store_held_j13 ft k))), (2, .int (nI k)), (0, .ref h0)]) hx hb d_Store_held_28 rfl hl (by decide) rfl (fun ls hl => ?_)
          refine lv_iinc (v := nI (k + 1)) (lv' := [(2, .int (nI (k + 1))), (1, .int (lo1 + (fx_Store_held_j13 ft k))), (0, .ref h0)]) hx hb d_Store_held_29 hl (k := 1) rfl (nI_1 _) (by decide) rfl (fun ls hl => ?_)
          refine lv_goto (tgt := 4) hx hb d_Store_held_32 (by decide) ?_
          refine W.widen (k := 0) (n := 0) (by omega) (by omega) ?_
          exact ih (k + 1) (lo1 + (fx_Store_held_j13 ft k)) _ _ _ (by omega) (by rw [hsp0]; rw [fx_Store_held_l4_r_s]; (repeat rw [if_neg gc_1]); first | done | rfl | contradiction) (by omega) (hP.sub (ws' := [(h0, .inr (12, [.int tb, .int (nI kb), .int (nI vb), .int (nI en), .ref s1, .ref s2, .ref s3])), (s3, .inl (c3, en, .inl ft))]) [0, 1] rfl) (hD.sub (ws' := [(h0, .inr (12, [.int tb, .int (nI kb), .int (nI vb), .int (nI en), .ref s1, .ref s2, .ref s3])), (s3, .inl (c3, en, .inl ft))]) [0, 1] (by decide) rfl) hS (lv_sub hl [0, 1, 2] rfl)
        refine lv_aload_n hx hb d_Store_held_13 rfl (lv_at hl 2 rfl) ?_
        refine va_get (D := D) (ci := 12) (v := .ref s3) (C := "FilterGuard$Store") (T := F_Store) (N := 7) hx hb hts i_Store hown hK hP 0 rfl rfl 6 (by decide) (hts _ u_917) (fun _ h9 => h9) rfl d_Store_held_14 ?_
        refine lv_iload_n hx hb d_Store_held_17 rfl (lv_at hl 0 rfl) ?_
        have hi9 := (show k < en by omega)
        refine va_zald hx hb hK hP 1 0 rfl rfl (nI_in (show k < en by omega) (by omega)) d_Store_held_18 ?_
        refine fg_topi (y := ft k) (by rw [nI_clamp (by omega)]) ?_
        refine lv_if_eq (tgt := 26) hx hb d_Store_held_19 (by decide) (fun c_3 => ?_) (fun c_3 => ?_)
        · refine lv_iconst (v := 0) hx hb d_Store_held_26 (by decide) ?_
          exact j13_1 0 _ _ _ (by unfold fx_Store_held_j13; (repeat rw [if_pos c_3]); first | done | rfl | contradiction) (hP.sub (ws' := [(h0, .inr (12, [.int tb, .int (nI kb), .int (nI vb), .int (nI en), .ref s1, .ref s2, .ref s3])), (s3, .inl (c3, en, .inl ft))]) [0, 1] rfl) (hD.sub (ws' := [(h0, .inr (12, [.int tb, .int (nI kb), .int (nI vb), .int (nI en), .ref s1, .ref s2, .ref s3])), (s3, .inl (c3, en, .inl ft))]) [0, 1] (by decide) rfl) hS (lv_sub hl [0, 1, 2] rfl)
        · refine lv_iconst (v := 1) hx hb d_Store_held_22 (by decide) ?_
          refine lv_goto (tgt := 27) hx hb d_Store_held_23 (by decide) ?_
          exact j13_1 1 _ _ _ (by unfold fx_Store_held_j13; (repeat rw [if_neg c_3]); first | done | rfl | contradiction) (hP.sub (ws' := [(h0, .inr (12, [.int tb, .int (nI kb), .int (nI vb), .int (nI en), .ref s1, .ref s2, .ref s3])), (s3, .inl (c3, en, .inl ft))]) [0, 1] rfl) (hD.sub (ws' := [(h0, .inr (12, [.int tb, .int (nI kb), .int (nI vb), .int (nI en), .ref s1, .ref s2, .ref s3])), (s3, .inl (c3, en, .inl ft))]) [0, 1] (by decide) rfl) hS (lv_sub hl [0, 1, 2] rfl)
  refine W.widen (k := 0) (n := 0) (by omega) (by omega) ?_
  exact loop4 (en + 1) 0 0 _ _ _ (by omega) (by unfold fx_Store_held_r; first | done | rfl | contradiction) (by omega) (hP.sub (ws' := [(h0, .inr (12, [.int tb, .int (nI kb), .int (nI vb), .int (nI en), .ref s1, .ref s2, .ref s3])), (s3, .inl (c3, en, .inl ft))]) [0, 1] rfl) (hD.sub (ws' := [(h0, .inr (12, [.int tb, .int (nI kb), .int (nI vb), .int (nI en), .ref s1, .ref s2, .ref s3])), (s3, .inl (c3, en, .inl ft))]) [0, 1] (by decide) rfl) hS (lv_sub hl [0, 1, 2] rfl)
def fx_Store_entryOf_l59_r (kb : Nat) (en : Nat) (fk : Nat → Int32) (ft : Nat → Int32) (fb : Nat → Int32) (fm : Nat) : Nat → Nat → Int32
  | 0 => fun k => 0
  | fu + 1 => fun k => (if en ≤ k then (-1) else (if (ft k) = 0 then (fx_Store_entryOf_l59_r kb en fk ft fb fm fu (k + 1)) else (if (fx_Store_isKey_r kb fk fb k fm) = 0 then (fx_Store_entryOf_l59_r kb en fk ft fb fm fu (k + 1)) else (nI k))))
theorem fx_Store_entryOf_l59_r_s (kb : Nat) (en : Nat) (fk : Nat → Int32) (ft : Nat → Int32) (fb : Nat → Int32) (fm : Nat) (fu : Nat) (k : Nat) : fx_Store_entryOf_l59_r kb en fk ft fb fm (fu + 1) k = (if en ≤ k then (-1) else (if (ft k) = 0 then (fx_Store_entryOf_l59_r kb en fk ft fb fm fu (k + 1)) else (if (fx_Store_isKey_r kb fk fb k fm) = 0 then (fx_Store_entryOf_l59_r kb en fk ft fb fm fu (k + 1)) else (nI k)))) := rfl
def fx_Store_entryOf_r (tb : Int32) (kb : Nat) (en : Nat) (fk : Nat → Int32) (ft : Nat → Int32) (fb : Nat → Int32) (fm : Nat) : Int32 := (if tb = 0 then (if ((((((((0 <<< ((8 : Int32).toInt64 &&& 63)) ||| (((fb (fm + 3)) &&& 255).toInt64)) <<< ((8 : Int32).toInt64 &&& 63)) ||| (((fb (fm + 2)) &&& 255).toInt64)) <<< ((8 : Int32).toInt64 &&& 63)) ||| (((fb (fm + 1)) &&& 255).toInt64)) <<< ((8 : Int32).toInt64 &&& 63)) ||| (((fb (fm + 0)) &&& 255).toInt64)) < ((nI en).toInt64) then (((((((((0 <<< ((8 : Int32).toInt64 &&& 63)) ||| (((fb (fm + 3)) &&& 255).toInt64)) <<< ((8 : Int32).toInt64 &&& 63)) ||| (((fb (fm + 2)) &&& 255).toInt64)) <<< ((8 : Int32).toInt64 &&& 63)) ||| (((fb (fm + 1)) &&& 255).toInt64)) <<< ((8 : Int32).toInt64 &&& 63)) ||| (((fb (fm + 0)) &&& 255).toInt64)).toInt32) else (-1)) else (fx_Store_entryOf_l59_r kb en fk ft fb fm (en + 1) 0))
def rm_Store_entryOf : Room := { frames := 2, cells := 0, slots := 0, locals := 60 }
abbrev q_Store_entryOf (D : va_G) (h0 : Nat) (tb : Int32) (kb : Nat) (vb : Nat) (en : Nat) (s1 : Nat) (s2 : Nat) (s3 : Nat) (c1 : ClassId) (c3 : ClassId) (kl : Nat) (fk : Nat → Int32) (ft : Nat → Int32) (h1 : Nat) (c4 : ClassId) (bl : Nat) (fb : Nat → Int32) (fm : Nat) (A : Nat → Prop) : Array Value → Jvm.State → Outcome → Jvm.State → Prop := va_Qi (fun (r : Int32) (_ : Unit) => r = (fx_Store_entryOf_r tb kb en fk ft fb fm)) (fg_B D A (fun (_ : Unit) => [(h0, .inr (12, [.int tb, .int (nI kb), .int (nI vb), .int (nI en), .ref s1, .ref s2, .ref s3])), (s1, .inl (c1, kl, .inl fk)), (s3, .inl (c3, en, .inl ft)), (h1, .inl (c4, bl, .inl fb))]) (fun (_ : Unit) => [])) A
set_option maxHeartbeats 4000000 in
set_option maxRecDepth 100000 in
theorem c_Store_entryOf (l : Launch) (D : va_G) (h0 : Nat) (tb : Int32) (kb : Nat) (vb : Nat) (en : Nat) (s1 : Nat) (s2 : Nat) (s3 : Nat) (c1 : ClassId) (c3 : ClassId) (kl : Nat) (fk : Nat → Int32) (ft : Nat → Int32) (h1 : Nat) (c4 : ClassId) (bl : Nat) (fb : Nat → Int32) (fm : Nat) (sz : Nat) (hen : en ≤ 64) (hkb : kb ≤ 16) (hvb : vb ≤ 64) (hkl : tb ≠ 0 → kl = en * kb) (hk2 : kl < 2 ^ 31) (hbl : fm + kb ≤ bl) (hb2 : bl < 2 ^ 31) (hk4 : tb = 0 → kb = 4) : Met l y_Store_entryOf (fg_w y_Store_entryOf prog_12_method_2_code 6 (some .int)) rm_Store_entryOf (va_Pc [.ref h0, .ref h1, .int (nI fm)] (fg_P D [(c1, .byte), (c3, .boolean), (c4, .byte)] [(h0, .inr (12, [.int tb, .int (nI kb), .int (nI vb), .int (nI en), .ref s1, .ref s2, .ref s3])), (s1, .inl (c1, kl, .inl fk)), (s3, .inl (c3, en, .inl ft)), (h1, .inl (c4, bl, .inl fb))] sz)) (q_Store_entryOf D h0 tb kb vb en s1 s2 s3 c1 c3 kl fk ft h1 c4 bl fb fm (va_A [(h0, .inr (12, [.int tb, .int (nI kb), .int (nI vb), .int (nI en), .ref s1, .ref s2, .ref s3])), (s1, .inl (c1, kl, .inl fk)), (s3, .inl (c3, en, .inl ft)), (h1, .inl (c4, bl, .inl fb))] sz)) rm_Store_entryOf.cells rm_Store_entryOf.slots (va_A [(h0, .inr (12, [.int tb, .int (nI kb), .int (nI vb), .int (nI en), .ref s1, .ref s2, .ref s3])), (s1, .inl (c1, kl, .inl fk)), (s3, .inl (c3, en, .inl ft)), (h1, .inl (c4, bl, .inl fb))] sz) := by
  refine fg_enter (fun A => q_Store_entryOf D h0 tb kb vb en s1 s2 s3 c1 c3 kl fk ft h1 c4 bl fb fm A) (by decide +kernel) (Nat.le_of_ble_eq_true rfl) ?_
  intro p e s m below meth c ls A hx hb hml hown hts hr hlocks hin hP hK hD hS hA hX hl
  have hl : lv_has ls 6 [(0, .ref h0), (1, .ref h1), (2, .int (nI fm))] := hl
  refine lv_aload_n hx hb d_Store_entryOf_0 rfl (lv_at hl 0 rfl) ?_
  refine va_get (D := D) (ci := 12) (v := .int tb) (C := "FilterGuard$Store") (T := F_Store) (N := 7) hx hb hts i_Store hown hK hP 0 rfl rfl 0 (by decide) (hts _ u_900) (fun _ h9 => h9) rfl d_Store_entryOf_1 ?_
  refine lv_if_ne (tgt := 57) hx hb d_Store_entryOf_4 (by decide) (fun c_1 => ?_) (fun c_1 => ?_)
  · refine lv_iconst (v := 0) hx hb d_Store_entryOf_57 (by decide) ?_
    refine lv_istore_n (lv' := [(3, .int 0), (0, .ref h0), (1, .ref h1), (2, .int (nI fm))]) hx hb d_Store_entryOf_58 rfl hl (by decide) rfl (fun ls hl => ?_)
    have loop59 : ∀ (nq : Nat) (k : Nat) (H : Heap) (locs : List Loc) (ls : Array Slot), k ≤ en → (fx_Store_entryOf_r tb kb en fk ft fb fm) = fx_Store_entryOf_l59_r kb en fk ft fb fm nq k → en - k < nq → va_P D classes [(h0, .inr (12, [.int tb, .int (nI kb), .int (nI vb), .int (nI en), .ref s1, .ref s2, .ref s3])), (s1, .inl (c1, kl, .inl fk)), (s3, .inl (c3, en, .inl ft)), (h1, .inl (c4, bl, .inl fb))] H → va_D A [(h0, .inr (12, [.int tb, .int (nI kb), .int (nI vb), .int (nI en), .ref s1, .ref s2, .ref s3])), (s1, .inl (c1, kl, .inl fk)), (s3, .inl (c3, en, .inl ft)), (h1, .inl (c4, bl, .inl fb))] → va_S A s.heap H locs → lv_has ls 6 [(3, .int (nI k)), (0, .ref h0), (1, .ref h1), (2, .int (nI fm))] → W p l e rm_Store_entryOf s m [.ref h0, .ref h1, .int (nI fm)].toArray below meth c H locs (0) (0) (MQ below (q_Store_entryOf D h0 tb kb vb en s1 s2 s3 c1 c3 kl fk ft h1 c4 bl fb fm A) [.ref h0, .ref h1, .int (nI fm)].toArray s rm_Store_entryOf.cells rm_Store_entryOf.slots A) (F0 m 59 ls []) := by
      intro nq
      induction nq with
      | zero => intro k H locs ls hk hsp0 hnq; exact absurd hnq (Nat.not_lt_zero _)
      | succ nq ih =>
        intro k H locs ls hk hsp0 hnq hP hD hS hl
        refine lv_iload_n hx hb d_Store_entryOf_59 rfl (lv_at hl 0 rfl) ?_
        refine lv_aload_n hx hb d_Store_entryOf_60 rfl (lv_at hl 1 rfl) ?_
        refine va_get (D := D) (ci := 12) (v := .int (nI en)) (C := "FilterGuard$Store") (T := F_Store) (N := 7) hx hb hts i_Store hown hK hP 0 rfl rfl 3 (by decide) (hts _ u_911) (fun _ h9 => h9) rfl d_Store_entryOf_61 ?_
        refine lv_icmp_ge (tgt := 94) hx hb d_Store_entryOf_64 (by decide) (fun c_2 => ?_) (fun c_2 => ?_)
        · have gc_2 : en ≤ k := (nI_leI (by omega) (by omega)).mp c_2
          refine lv_iconst (v := (-1)) hx hb d_Store_entryOf_94 (by decide) ?_
          exact fg_reti () hx hb hr hlocks (by rw [hsp0, fx_Store_entryOf_l59_r_s]; (repeat rw [if_pos gc_2]); first | done | rfl | contradiction) (hP.sub (ws' := [(h0, .inr (12, [.int tb, .int (nI kb), .int (nI vb), .int (nI en), .ref s1, .ref s2, .ref s3])), (s1, .inl (c1, kl, .inl fk)), (s3, .inl (c3, en, .inl ft)), (h1, .inl (c4, bl, .inl fb))]) [0, 1, 2, 3] rfl) (hK.sub (tys' := []) [] rfl) (hD.sub (ws' := [(h0, .inr (12, [.int tb, .int (nI kb), .int (nI vb), .int (nI en), .ref s1, .ref s2, .ref s3])), (s1, .inl (c1, kl, .inl fk)), (s3, .inl (c3, en, .inl ft)), (h1, .inl (c4, bl, .inl fb))]) [0, 1, 2, 3] (by decide) rfl) hS (Nat.le_of_ble_eq_true rfl) (Nat.le_of_ble_eq_true rfl) d_Store_entryOf_95
        · have gc_2 : ¬ en ≤ k := fun z9 => c_2 ((nI_leI (by omega) (by omega)).mpr z9)
          refine lv_aload_n hx hb d_Store_entryOf_67 rfl (lv_at hl 1 rfl) ?_
          refine va_get (D := D) (ci := 12) (v := .ref s3) (C := "FilterGuard$Store") (T := F_Store) (N := 7) hx hb hts i_Store hown hK hP 0 rfl rfl 6 (by decide) (hts _ u_917) (fun _ h9 => h9) rfl d_Store_entryOf_68 ?_
          refine lv_iload_n hx hb d_Store_entryOf_71 rfl (lv_at hl 0 rfl) ?_
          have hi9 := (show k < en by omega)
          refine va_zald hx hb hK hP 2 1 rfl rfl (nI_in (show k < en by omega) (by omega)) d_Store_entryOf_72 ?_
          refine fg_topi (y := ft k) (by rw [nI_clamp (by omega)]) ?_
          refine lv_if_eq (tgt := 88) hx hb d_Store_entryOf_73 (by decide) (fun c_3 => ?_) (fun c_3 => ?_)
          · refine lv_iinc (v := nI (k + 1)) (lv' := [(3, .int (nI (k + 1))), (0, .ref h0), (1, .ref h1), (2, .int (nI fm))]) hx hb d_Store_entryOf_88 hl (k := 0) rfl (nI_1 _) (by decide) rfl (fun ls hl => ?_)
            refine lv_goto (tgt := 59) hx hb d_Store_entryOf_91 (by decide) ?_
            refine W.widen (k := 0) (n := 0) (by omega) (by omega) ?_
            exact ih (k + 1) _ _ _ (by omega) (by rw [hsp0]; rw [fx_Store_entryOf_l59_r_s]; (repeat rw [if_neg gc_2]); (repeat rw [if_pos c_3]); first | done | rfl | contradiction) (by omega) (hP.sub (ws' := [(h0, .inr (12, [.int tb, .int (nI kb), .int (nI vb), .int (nI en), .ref s1, .ref s2, .ref s3])), (s1, .inl (c1, kl, .inl fk)), (s3, .inl (c3, en, .inl ft)), (h1, .inl (c4, bl, .inl fb))]) [0, 1, 2, 3] rfl) (hD.sub (ws' := [(h0, .inr (12, [.int tb, .int (nI kb), .int (nI vb), .int (nI en), .ref s1, .ref s2, .ref s3])), (s1, .inl (c1, kl, .inl fk)), (s3, .inl (c3, en, .inl ft)), (h1, .inl (c4, bl, .inl fb))]) [0, 1, 2, 3] (by decide) rfl) hS (lv_sub hl [0, 1, 2, 3] rfl)
          · refine lv_aload_n hx hb d_Store_entryOf_76 rfl (lv_at hl 1 rfl) ?_
            refine lv_iload_n hx hb d_Store_entryOf_77 rfl (lv_at hl 0 rfl) ?_
            refine lv_aload_n hx hb d_Store_entryOf_78 rfl (lv_at hl 2 rfl) ?_
            refine lv_iload_n hx hb d_Store_entryOf_79 rfl (lv_at hl 3 rfl) ?_
            refine fg_theni (wr := [(s3, .inl (c3, en, .inl ft))]) (fg_runV (C := "FilterGuard$Store") (As := [.int (nI k), .ref h1, .int (nI fm)]) (rest := []) (ci := 12) (q0 := 0) ⟨hx, hb, hml, hown, hts⟩ (c_Store_isKey l D h0 tb kb vb en s1 s2 s3 c1 kl fk h1 c4 bl fb k fm H.size hen hkb hvb (st_mul (by omega) (hkl c_1)) hk2 hbl hb2) rfl (by show fg_nm y_Store_isKey 3; decide +kernel) u_1530 u_1532 u_61 u_201 u_1533 ⟨Nat.le_of_ble_eq_true rfl, Nat.le_of_ble_eq_true rfl⟩ hX (hP.sub (ws' := [(h0, .inr (12, [.int tb, .int (nI kb), .int (nI vb), .int (nI en), .ref s1, .ref s2, .ref s3])), (s1, .inl (c1, kl, .inl fk)), (h1, .inl (c4, bl, .inl fb))]) [0, 1, 3] rfl) (hK.sub (tys' := [(c1, .byte), (c4, .byte)]) [0, 2] rfl) (hD.sub (ws' := [(h0, .inr (12, [.int tb, .int (nI kb), .int (nI vb), .int (nI en), .ref s1, .ref s2, .ref s3])), (s1, .inl (c1, kl, .inl fk)), (h1, .inl (c4, bl, .inl fb))]) [0, 1, 3] (by decide) rfl) rfl rfl rfl rfl hl.1 (Nat.le_of_ble_eq_true rfl) d_Store_entryOf_80 ⟨(Nat.le_of_ble_eq_true rfl), (Nat.le_of_ble_eq_true rfl)⟩) hP hD hK hS hA [0, 1, 3] [2] rfl rfl (by decide) (by decide) (fun r80_4 u H locs hw80_3 hP hD hK hS => ?_)
            try dsimp only at hw80_3
            have hP : va_P D classes [(s3, .inl (c3, en, .inl ft)), (h0, .inr (12, [.int tb, .int (nI kb), .int (nI vb), .int (nI en), .ref s1, .ref s2, .ref s3])), (s1, .inl (c1, kl, .inl fk)), (h1, .inl (c4, bl, .inl fb))] H := hP
            have hD : va_D A [(s3, .inl (c3, en, .inl ft)), (h0, .inr (12, [.int tb, .int (nI kb), .int (nI vb), .int (nI en), .ref s1, .ref s2, .ref s3])), (s1, .inl (c1, kl, .inl fk)), (h1, .inl (c4, bl, .inl fb))] := hD
            have hK : va_K D classes [(c1, .byte), (c3, .boolean), (c4, .byte)] s := hK
            refine W.widen (k := 0) (n := 0) (Nat.le_of_ble_eq_true rfl) (Nat.le_of_ble_eq_true rfl) ?_
            obtain ⟨hw80_3_0, hw80_3_1⟩ := hw80_3
            subst hw80_3_0
            have hP : va_P D classes [(s3, .inl (c3, en, .inl ft)), (h0, .inr (12, [.int tb, .int (nI kb), .int (nI vb), .int (nI en), .ref s1, .ref s2, .ref s3])), (s1, .inl (c1, kl, .inl fk)), (h1, .inl (c4, bl, .inl fb))] H := hP
            have hD : va_D A [(s3, .inl (c3, en, .inl ft)), (h0, .inr (12, [.int tb, .int (nI kb), .int (nI vb), .int (nI en), .ref s1, .ref s2, .ref s3])), (s1, .inl (c1, kl, .inl fk)), (h1, .inl (c4, bl, .inl fb))] := hD
            refine lv_if_eq (tgt := 88) hx hb d_Store_entryOf_83 (by decide) (fun c_5 => ?_) (fun c_5 => ?_)
            · refine lv_iinc (v := nI (k + 1)) (lv' := [(3, .int (nI (k + 1))), (0, .ref h0), (1, .ref h1), (2, .int (nI fm))]) hx hb d_Store_entryOf_88 hl (k := 0) rfl (nI_1 _) (by decide) rfl (fun ls hl => ?_)
              refine lv_goto (tgt := 59) hx hb d_Store_entryOf_91 (by decide) ?_
              refine W.widen (k := 0) (n := 0) (by omega) (by omega) ?_
              exact ih (k + 1) _ _ _ (by omega) (by rw [hsp0]; rw [fx_Store_entryOf_l59_r_s]; (repeat rw [if_neg gc_2]); (repeat rw [if_neg c_3]); (repeat rw [if_pos c_5]); first | done | rfl | contradiction) (by omega) (hP.sub (ws' := [(h0, .inr (12, [.int tb, .int (nI kb), .int (nI vb), .int (nI en), .ref s1, .ref s2, .ref s3])), (s1, .inl (c1, kl, .inl fk)), (s3, .inl (c3, en, .inl ft)), (h1, .inl (c4, bl, .inl fb))]) [1, 2, 0, 3] rfl) (hD.sub (ws' := [(h0, .inr (12, [.int tb, .int (nI kb), .int (nI vb), .int (nI en), .ref s1, .ref s2, .ref s3])), (s1, .inl (c1, kl, .inl fk)), (s3, .inl (c3, en, .inl ft)), (h1, .inl (c4, bl, .inl fb))]) [1, 2, 0, 3] (by decide) rfl) hS (lv_sub hl [0, 1, 2, 3] rfl)
            · refine lv_iload_n hx hb d_Store_entryOf_86 rfl (lv_at hl 0 rfl) ?_
              exact fg_reti () hx hb hr hlocks (by rw [hsp0, fx_Store_entryOf_l59_r_s]; (repeat rw [if_neg gc_2]); (repeat rw [if_neg c_3]); (repeat rw [if_neg c_5]); first | done | rfl | contradiction) (hP.sub (ws' := [(h0, .inr (12, [.int tb, .int (nI kb), .int (nI vb), .int (nI en), .ref s1, .ref s2, .ref s3])), (s1, .inl (c1, kl, .inl fk)), (s3, .inl (c3, en, .inl ft)), (h1, .inl (c4, bl, .inl fb))]) [1, 2, 0, 3] rfl) (hK.sub (tys' := []) [] rfl) (hD.sub (ws' := [(h0, .inr (12, [.int tb, .int (nI kb), .int (nI vb), .int (nI en), .ref s1, .ref s2, .ref s3])), (s1, .inl (c1, kl, .inl fk)), (s3, .inl (c3, en, .inl ft)), (h1, .inl (c4, bl, .inl fb))]) [1, 2, 0, 3] (by decide) rfl) hS (Nat.le_of_ble_eq_true rfl) (Nat.le_of_ble_eq_true rfl) d_Store_entryOf_87
    refine W.widen (k := 0) (n := 0) (by omega) (by omega) ?_
    exact loop59 (en + 1) 0 _ _ _ (by omega) (by unfold fx_Store_entryOf_r; (repeat rw [if_neg c_1]); first | done | rfl | contradiction) (by omega) (hP.sub (ws' := [(h0, .inr (12, [.int tb, .int (nI kb), .int (nI vb), .int (nI en), .ref s1, .ref s2, .ref s3])), (s1, .inl (c1, kl, .inl fk)), (s3, .inl (c3, en, .inl ft)), (h1, .inl (c4, bl, .inl fb))]) [0, 1, 2, 3] rfl) (hD.sub (ws' := [(h0, .inr (12, [.int tb, .int (nI kb), .int (nI vb), .int (nI en), .ref s1, .ref s2, .ref s3])), (s1, .inl (c1, kl, .inl fk)), (s3, .inl (c3, en, .inl ft)), (h1, .inl (c4, bl, .inl fb))]) [0, 1, 2, 3] (by decide) rfl) hS (lv_sub hl [0, 1, 2, 3] rfl)
  · refine lv_lconst (v := 0) hx hb d_Store_entryOf_7 (by decide) ?_
    refine lv_lstore_n (lv' := [(3, .long 0), (0, .ref h0), (1, .ref h1), (2, .int (nI fm))]) hx hb d_Store_entryOf_8 rfl hl (by decide) rfl (fun ls hl => ?_)
    refine lv_iconst (v := 3) hx hb d_Store_entryOf_9 (by decide) ?_
    refine lv_istore (lv' := [(5, .int 3), (3, .long 0), (0, .ref h0), (1, .ref h1), (2, .int (nI fm))]) hx hb d_Store_entryOf_10 hl (by decide) rfl (fun ls hl => ?_)
    refine lv_iload hx hb d_Store_entryOf_12 (lv_at hl 0 rfl) ?_
    refine lv_if_lt (tgt := 40) hx hb d_Store_entryOf_14 (by decide) (fun c_6 => absurd c_6 (by decide)) (fun c_6 => ?_)
    refine lv_lload_n hx hb d_Store_entryOf_17 rfl (lv_at hl 1 rfl) ?_
    refine lv_bipush (v := 8) hx hb d_Store_entryOf_18 (by decide) ?_
    refine lv_lshl (v := 0 <<< ((8 : Int32).toInt64 &&& 63)) hx hb d_Store_entryOf_20 rfl ?_
    refine lv_aload_n hx hb d_Store_entryOf_21 rfl (lv_at hl 3 rfl) ?_
    refine lv_iload_n hx hb d_Store_entryOf_22 rfl (lv_at hl 4 rfl) ?_
    refine lv_iload hx hb d_Store_entryOf_23 (lv_at hl 0 rfl) ?_
    refine lv_iadd hx hb d_Store_entryOf_25 ?_
    refine fg_topi (y := nI (fm + 3)) (nI_add fm 3) ?_
    have hi9 := (show (fm + 3) < bl by have h9 := hk4 c_1; omega)
    refine va_bald hx hb hK hP 3 2 rfl rfl (nI_in (show (fm + 3) < bl by have h9 := hk4 c_1; omega) (by omega)) d_Store_entryOf_26 ?_
    refine fg_topi (y := fb (fm + 3)) (by rw [nI_clamp (by omega)]) ?_
    refine lv_sipush (v := 255) hx hb d_Store_entryOf_27 (by decide) ?_
    refine lv_iand hx hb d_Store_entryOf_30 ?_
    refine lv_i2l (v := ((fb (fm + 3)) &&& 255).toInt64) hx hb d_Store_entryOf_31 rfl ?_
    refine lv_lor hx hb d_Store_entryOf_32 ?_
    refine lv_lstore_n (lv' := [(3, .long ((0 <<< ((8 : Int32).toInt64 &&& 63)) ||| (((fb (fm + 3)) &&& 255).toInt64))), (5, .int 3), (0, .ref h0), (1, .ref h1), (2, .int (nI fm))]) hx hb d_Store_entryOf_33 rfl hl (by decide) rfl (fun ls hl => ?_)
    refine lv_iinc (v := 2) (lv' := [(5, .int 2), (3, .long ((0 <<< ((8 : Int32).toInt64 &&& 63)) ||| (((fb (fm + 3)) &&& 255).toInt64))), (0, .ref h0), (1, .ref h1), (2, .int (nI fm))]) hx hb d_Store_entryOf_34 hl (k := 1) rfl (by decide) (by decide) rfl (fun ls hl => ?_)
    refine lv_goto (tgt := 12) hx hb d_Store_entryOf_37 (by decide) ?_
    refine lv_iload hx hb d_Store_entryOf_12 (lv_at hl 0 rfl) ?_
    refine lv_if_lt (tgt := 40) hx hb d_Store_entryOf_14 (by decide) (fun c_7 => absurd c_7 (by decide)) (fun c_7 => ?_)
    refine lv_lload_n hx hb d_Store_entryOf_17 rfl (lv_at hl 1 rfl) ?_
    refine lv_bipush (v := 8) hx hb d_Store_entryOf_18 (by decide) ?_
    refine lv_lshl (v := ((0 <<< ((8 : Int32).toInt64 &&& 63)) ||| (((fb (fm + 3)) &&& 255).toInt64)) <<< ((8 : Int32).toInt64 &&& 63)) hx hb d_Store_entryOf_20 rfl ?_
    refine lv_aload_n hx hb d_Store_entryOf_21 rfl (lv_at hl 3 rfl) ?_
    refine lv_iload_n hx hb d_Store_entryOf_22 rfl (lv_at hl 4 rfl) ?_
    refine lv_iload hx hb d_Store_entryOf_23 (lv_at hl 0 rfl) ?_
    refine lv_iadd hx hb d_Store_entryOf_25 ?_
    refine fg_topi (y := nI (fm + 2)) (nI_add fm 2) ?_
    have hi9 := (show (fm + 2) < bl by have h9 := hk4 c_1; omega)
    refine va_bald hx hb hK hP 3 2 rfl rfl (nI_in (show (fm + 2) < bl by have h9 := hk4 c_1; omega) (by omega)) d_Store_entryOf_26 ?_
    refine fg_topi (y := fb (fm + 2)) (by rw [nI_clamp (by omega)]) ?_
    refine lv_sipush (v := 255) hx hb d_Store_entryOf_27 (by decide) ?_
    refine lv_iand hx hb d_Store_entryOf_30 ?_
    refine lv_i2l (v := ((fb (fm + 2)) &&& 255).toInt64) hx hb d_Store_entryOf_31 rfl ?_
    refine lv_lor hx hb d_Store_entryOf_32 ?_
    refine lv_lstore_n (lv' := [(3, .long ((((0 <<< ((8 : Int32).toInt64 &&& 63)) ||| (((fb (fm + 3)) &&& 255).toInt64)) <<< ((8 : Int32).toInt64 &&& 63)) ||| (((fb (fm + 2)) &&& 255).toInt64))), (5, .int 2), (0, .ref h0), (1, .ref h1), (2, .int (nI fm))]) hx hb d_Store_entryOf_33 rfl hl (by decide) rfl (fun ls hl => ?_)
    refine lv_iinc (v := 1) (lv' := [(5, .int 1), (3, .long ((((0 <<< ((8 : Int32).toInt64 &&& 63)) ||| (((fb (fm + 3)) &&& 255).toInt64)) <<< ((8 : Int32).toInt64 &&& 63)) ||| (((fb (fm + 2)) &&& 255).toInt64))), (0, .ref h0), (1, .ref h1), (2, .int (nI fm))]) hx hb d_Store_entryOf_34 hl (k := 1) rfl (by decide) (by decide) rfl (fun ls hl => ?_)
    refine lv_goto (tgt := 12) hx hb d_Store_entryOf_37 (by decide) ?_
    refine lv_iload hx hb d_Store_entryOf_12 (lv_at hl 0 rfl) ?_
    refine lv_if_lt (tgt := 40) hx hb d_Store_entryOf_14 (by decide) (fun c_8 => absurd c_8 (by decide)) (fun c_8 => ?_)
    refine lv_lload_n hx hb d_Store_entryOf_17 rfl (lv_at hl 1 rfl) ?_
    refine lv_bipush (v := 8) hx hb d_Store_entryOf_18 (by decide) ?_
    refine lv_lshl (v := ((((0 <<< ((8 : Int32).toInt64 &&& 63)) ||| (((fb (fm + 3)) &&& 255).toInt64)) <<< ((8 : Int32).toInt64 &&& 63)) ||| (((fb (fm + 2)) &&& 255).toInt64)) <<< ((8 : Int32).toInt64 &&& 63)) hx hb d_Store_entryOf_20 rfl ?_
    refine lv_aload_n hx hb d_Store_entryOf_21 rfl (lv_at hl 3 rfl) ?_
    refine lv_iload_n hx hb d_Store_entryOf_22 rfl (lv_at hl 4 rfl) ?_
    refine lv_iload hx hb d_Store_entryOf_23 (lv_at hl 0 rfl) ?_
    refine lv_iadd hx hb d_Store_entryOf_25 ?_
    refine fg_topi (y := nI (fm + 1)) (nI_add fm 1) ?_
    have hi9 := (show (fm + 1) < bl by have h9 := hk4 c_1; omega)
    refine va_bald hx hb hK hP 3 2 rfl rfl (nI_in (show (fm + 1) < bl by have h9 := hk4 c_1; omega) (by omega)) d_Store_entryOf_26 ?_
    refine fg_topi (y := fb (fm + 1)) (by rw [nI_clamp (by omega)]) ?_
    refine lv_sipush (v := 255) hx hb d_Store_entryOf_27 (by decide) ?_
    refine lv_iand hx hb d_Store_entryOf_30 ?_
    refine lv_i2l (v := ((fb (fm + 1)) &&& 255).toInt64) hx hb d_Store_entryOf_31 rfl ?_
    refine lv_lor hx hb d_Store_entryOf_32 ?_
    refine lv_lstore_n (lv' := [(3, .long ((((((0 <<< ((8 : Int32).toInt64 &&& 63)) ||| (((fb (fm + 3)) &&& 255).toInt64)) <<< ((8 : Int32).toInt64 &&& 63)) ||| (((fb (fm + 2)) &&& 255).toInt64)) <<< ((8 : Int32).toInt64 &&& 63)) ||| (((fb (fm + 1)) &&& 255).toInt64))), (5, .int 1), (0, .ref h0), (1, .ref h1), (2, .int (nI fm))]) hx hb d_Store_entryOf_33 rfl hl (by decide) rfl (fun ls hl => ?_)
    refine lv_iinc (v := 0) (lv' := [(5, .int 0), (3, .long ((((((0 <<< ((8 : Int32).toInt64 &&& 63)) ||| (((fb (fm + 3)) &&& 255).toInt64)) <<< ((8 : Int32).toInt64 &&& 63)) ||| (((fb (fm + 2)) &&& 255).toInt64)) <<< ((8 : Int32).toInt64 &&& 63)) ||| (((fb (fm + 1)) &&& 255).toInt64))), (0, .ref h0), (1, .ref h1), (2, .int (nI fm))]) hx hb d_Store_entryOf_34 hl (k := 1) rfl (by decide) (by decide) rfl (fun ls hl => ?_)
    refine lv_goto (tgt := 12) hx hb d_Store_entryOf_37 (by decide) ?_
    refine lv_iload hx hb d_Store_entryOf_12 (lv_at hl 0 rfl) ?_
    refine lv_if_lt (tgt := 40) hx hb d_Store_entryOf_14 (by decide) (fun c_9 => absurd c_9 (by decide)) (fun c_9 => ?_)
    refine lv_lload_n hx hb d_Store_entryOf_17 rfl (lv_at hl 1 rfl) ?_
    refine lv_bipush (v := 8) hx hb d_Store_entryOf_18 (by decide) ?_
    refine lv_lshl (v := ((((((0 <<< ((8 : Int32).toInt64 &&& 63)) ||| (((fb (fm + 3)) &&& 255).toInt64)) <<< ((8 : Int32).toInt64 &&& 63)) ||| (((fb (fm + 2)) &&& 255).toInt64)) <<< ((8 : Int32).toInt64 &&& 63)) ||| (((fb (fm + 1)) &&& 255).toInt64)) <<< ((8 : Int32).toInt64 &&& 63)) hx hb d_Store_entryOf_20 rfl ?_
    refine lv_aload_n hx hb d_Store_entryOf_21 rfl (lv_at hl 3 rfl) ?_
    refine lv_iload_n hx hb d_Store_entryOf_22 rfl (lv_at hl 4 rfl) ?_
    refine lv_iload hx hb d_Store_entryOf_23 (lv_at hl 0 rfl) ?_
    refine lv_iadd hx hb d_Store_entryOf_25 ?_
    refine fg_topi (y := nI (fm + 0)) (nI_add fm 0) ?_
    have hi9 := (show (fm + 0) < bl by have h9 := hk4 c_1; omega)
    refine va_bald hx hb hK hP 3 2 rfl rfl (nI_in (show (fm + 0) < bl by have h9 := hk4 c_1; omega) (by omega)) d_Store_entryOf_26 ?_
    refine fg_topi (y := fb (fm + 0)) (by rw [nI_clamp (by omega)]) ?_
    refine lv_sipush (v := 255) hx hb d_Store_entryOf_27 (by decide) ?_
    refine lv_iand hx hb d_Store_entryOf_30 ?_
    refine lv_i2l (v := ((fb (fm + 0)) &&& 255).toInt64) hx hb d_Store_entryOf_31 rfl ?_
    refine lv_lor hx hb d_Store_entryOf_32 ?_
    refine lv_lstore_n (lv' := [(3, .long ((((((((0 <<< ((8 : Int32).toInt64 &&& 63)) ||| (((fb (fm + 3)) &&& 255).toInt64)) <<< ((8 : Int32).toInt64 &&& 63)) ||| (((fb (fm + 2)) &&& 255).toInt64)) <<< ((8 : Int32).toInt64 &&& 63)) ||| (((fb (fm + 1)) &&& 255).toInt64)) <<< ((8 : Int32).toInt64 &&& 63)) ||| (((fb (fm + 0)) &&& 255).toInt64))), (5, .int 0), (0, .ref h0), (1, .ref h1), (2, .int (nI fm))]) hx hb d_Store_entryOf_33 rfl hl (by decide) rfl (fun ls hl => ?_)
    refine lv_iinc (v := (-1)) (lv' := [(5, .int (-1)), (3, .long ((((((((0 <<< ((8 : Int32).toInt64 &&& 63)) ||| (((fb (fm + 3)) &&& 255).toInt64)) <<< ((8 : Int32).toInt64 &&& 63)) ||| (((fb (fm + 2)) &&& 255).toInt64)) <<< ((8 : Int32).toInt64 &&& 63)) ||| (((fb (fm + 1)) &&& 255).toInt64)) <<< ((8 : Int32).toInt64 &&& 63)) ||| (((fb (fm + 0)) &&& 255).toInt64))), (0, .ref h0), (1, .ref h1), (2, .int (nI fm))]) hx hb d_Store_entryOf_34 hl (k := 1) rfl (by decide) (by decide) rfl (fun ls hl => ?_)
    refine lv_goto (tgt := 12) hx hb d_Store_entryOf_37 (by decide) ?_
    refine lv_iload hx hb d_Store_entryOf_12 (lv_at hl 0 rfl) ?_
    refine lv_if_lt (tgt := 40) hx hb d_Store_entryOf_14 (by decide) (fun c_10 => ?_) (fun c_10 => absurd (by decide) c_10)
    refine lv_lload_n hx hb d_Store_entryOf_40 rfl (lv_at hl 1 rfl) ?_
    refine lv_aload_n hx hb d_Store_entryOf_41 rfl (lv_at hl 2 rfl) ?_
    refine va_get (D := D) (ci := 12) (v := .int (nI en)) (C := "FilterGuard$Store") (T := F_Store) (N := 7) hx hb hts i_Store hown hK hP 0 rfl rfl 3 (by decide) (hts _ u_911) (fun _ h9 => h9) rfl d_Store_entryOf_42 ?_
    refine lv_i2l (v := (nI en).toInt64) hx hb d_Store_entryOf_45 rfl ?_
    refine W.lcmp hx hb d_Store_entryOf_46 ?_
    refine lv_if_ge (tgt := 55) hx hb d_Store_entryOf_47 (by decide) (fun c_11 => ?_) (fun c_11 => ?_)
    · have gc_11 : ¬ ((((((((0 <<< ((8 : Int32).toInt64 &&& 63)) ||| (((fb (fm + 3)) &&& 255).toInt64)) <<< ((8 : Int32).toInt64 &&& 63)) ||| (((fb (fm + 2)) &&& 255).toInt64)) <<< ((8 : Int32).toInt64 &&& 63)) ||| (((fb (fm + 1)) &&& 255).toInt64)) <<< ((8 : Int32).toInt64 &&& 63)) ||| (((fb (fm + 0)) &&& 255).toInt64)) < ((nI en).toInt64) := Int64.not_lt.mpr ((lg_cmp_ge _ _).mp c_11)
      refine lv_iconst (v := (-1)) hx hb d_Store_entryOf_55 (by decide) ?_
      exact fg_reti () hx hb hr hlocks (by unfold fx_Store_entryOf_r; (repeat rw [if_pos c_1]); (repeat rw [if_neg gc_11]); first | done | rfl | contradiction) (hP.sub (ws' := [(h0, .inr (12, [.int tb, .int (nI kb), .int (nI vb), .int (nI en), .ref s1, .ref s2, .ref s3])), (s1, .inl (c1, kl, .inl fk)), (s3, .inl (c3, en, .inl ft)), (h1, .inl (c4, bl, .inl fb))]) [0, 1, 2, 3] rfl) (hK.sub (tys' := []) [] rfl) (hD.sub (ws' := [(h0, .inr (12, [.int tb, .int (nI kb), .int (nI vb), .int (nI en), .ref s1, .ref s2, .ref s3])), (s1, .inl (c1, kl, .inl fk)), (s3, .inl (c3, en, .inl ft)), (h1, .inl (c4, bl, .inl fb))]) [0, 1, 2, 3] (by decide) rfl) hS (Nat.le_of_ble_eq_true rfl) (Nat.le_of_ble_eq_true rfl) d_Store_entryOf_56
    · have gc_11 : ((((((((0 <<< ((8 : Int32).toInt64 &&& 63)) ||| (((fb (fm + 3)) &&& 255).toInt64)) <<< ((8 : Int32).toInt64 &&& 63)) ||| (((fb (fm + 2)) &&& 255).toInt64)) <<< ((8 : Int32).toInt64 &&& 63)) ||| (((fb (fm + 1)) &&& 255).toInt64)) <<< ((8 : Int32).toInt64 &&& 63)) ||| (((fb (fm + 0)) &&& 255).toInt64)) < ((nI en).toInt64) := Int64.not_le.mp (fun z => c_11 ((lg_cmp_ge _ _).mpr z))
      refine lv_lload_n hx hb d_Store_entryOf_50 rfl (lv_at hl 1 rfl) ?_
      refine lv_l2i (v := ((((((((0 <<< ((8 : Int32).toInt64 &&& 63)) ||| (((fb (fm + 3)) &&& 255).toInt64)) <<< ((8 : Int32).toInt64 &&& 63)) ||| (((fb (fm + 2)) &&& 255).toInt64)) <<< ((8 : Int32).toInt64 &&& 63)) ||| (((fb (fm + 1)) &&& 255).toInt64)) <<< ((8 : Int32).toInt64 &&& 63)) ||| (((fb (fm + 0)) &&& 255).toInt64)).toInt32) hx hb d_Store_entryOf_51 rfl ?_
      refine lv_goto (tgt := 56) hx hb d_Store_entryOf_52 (by decide) ?_
      exact fg_reti () hx hb hr hlocks (by unfold fx_Store_entryOf_r; (repeat rw [if_pos c_1]); (repeat rw [if_pos gc_11]); first | done | rfl | contradiction) (hP.sub (ws' := [(h0, .inr (12, [.int tb, .int (nI kb), .int (nI vb), .int (nI en), .ref s1, .ref s2, .ref s3])), (s1, .inl (c1, kl, .inl fk)), (s3, .inl (c3, en, .inl ft)), (h1, .inl (c4, bl, .inl fb))]) [0, 1, 2, 3] rfl) (hK.sub (tys' := []) [] rfl) (hD.sub (ws' := [(h0, .inr (12, [.int tb, .int (nI kb), .int (nI vb), .int (nI en), .ref s1, .ref s2, .ref s3])), (s1, .inl (c1, kl, .inl fk)), (s3, .inl (c3, en, .inl ft)), (h1, .inl (c4, bl, .inl fb))]) [0, 1, 2, 3] (by decide) rfl) hS (Nat.le_of_ble_eq_true rfl) (Nat.le_of_ble_eq_true rfl) d_Store_entryOf_56
def fx_Store_hasByte_j0 (kb : Nat) (x2 : Int32) : Int32 := (if x2 < 100 then 0 else (if (nI (100 + kb)) ≤ x2 then 0 else 1))
def fx_Store_hasByte_r (tb : Int32) (kb : Nat) (vb : Nat) (ft : Nat → Int32) (ei : Nat) (x2 : Int32) : Int32 := (if x2 = 0 then 1 else (if (fx_Store_hasByte_j0 kb x2) = 0 then (if x2 < 200 then 0 else (if (nI (200 + vb)) ≤ x2 then 0 else 1)) else (if tb = 0 then (if x2 < 200 then 0 else (if (nI (200 + vb)) ≤ x2 then 0 else 1)) else (if (ft ei) = 0 then (if x2 < 200 then 0 else (if (nI (200 + vb)) ≤ x2 then 0 else 1)) else 1))))
def rm_Store_hasByte : Room := { frames := 1, cells := 0, slots := 0, locals := 20 }
abbrev q_Store_hasByte (D : va_G) (h0 : Nat) (tb : Int32) (kb : Nat) (vb : Nat) (en : Nat) (s1 : Nat) (s2 : Nat) (s3 : Nat) (c3 : ClassId) (ft : Nat → Int32) (ei : Nat) (x2 : Int32) (A : Nat → Prop) : Array Value → Jvm.State → Outcome → Jvm.State → Prop := va_Qi (fun (r : Int32) (_ : Unit) => r = (fx_Store_hasByte_r tb kb vb ft ei x2) ∧ (r = 1 ∨ r = 0)) (fg_B D A (fun (_ : Unit) => [(h0, .inr (12, [.int tb, .int (nI kb), .int (nI vb), .int (nI en), .ref s1, .ref s2, .ref s3])), (s3, .inl (c3, en, .inl ft))]) (fun (_ : Unit) => [])) A
set_option maxHeartbeats 4000000 in
set_option maxRecDepth 100000 in
theorem c_Store_hasByte (l : Launch) (D : va_G) (h0 : Nat) (tb : Int32) (kb : Nat) (vb : Nat) (en : Nat) (s1 : Nat) (s2 : Nat) (s3 : Nat) (c3 : ClassId) (ft : Nat → Int32) (ei : Nat) (x2 : Int32) (sz : Nat) (hen : en ≤ 64) (hkb : kb ≤ 16) (hvb : vb ≤ 64) (hei : ei < en) : Met l y_Store_hasByte (fg_w y_Store_hasByte prog_12_method_8_code 4 (some .boolean)) rm_Store_hasByte (va_Pc [.ref h0, .int (nI ei), .int x2] (fg_P D [(c3, .boolean)] [(h0, .inr (12, [.int tb, .int (nI kb), .int (nI vb), .int (nI en), .ref s1, .ref s2, .ref s3])), (s3, .inl (c3, en, .inl ft))] sz)) (q_Store_hasByte D h0 tb kb vb en s1 s2 s3 c3 ft ei x2 (va_A [(h0, .inr (12, [.int tb, .int (nI kb), .int (nI vb), .int (nI en), .ref s1, .ref s2, .ref s3])), (s3, .inl (c3, en, .inl ft))] sz)) rm_Store_hasByte.cells rm_Store_hasByte.slots (va_A [(h0, .inr (12, [.int tb, .int (nI kb), .int (nI vb), .int (nI en), .ref s1, .ref s2, .ref s3])), (s3, .inl (c3, en, .inl ft))] sz) := by
  refine fg_enter (fun A => q_Store_hasByte D h0 tb kb vb en s1 s2 s3 c3 ft ei x2 A) (by decide +kernel) (Nat.le_of_ble_eq_true rfl) ?_
  intro p e s m below meth c ls A hx hb hml hown hts hr hlocks hin hP hK hD hS hA hX hl
  have hl : lv_has ls 4 [(0, .ref h0), (1, .int (nI ei)), (2, .int x2)] := hl
  have j0_0 : ∀ (v0_0 : Int32) (H : Heap) (locs : List Loc) (ls : Array Slot), v0_0 = (fx_Store_hasByte_j0 kb x2) → (v0_0 = 1 ∨ v0_0 = 0) → va_P D classes [(h0, .inr (12, [.int tb, .int (nI kb), .int (nI vb), .int (nI en), .ref s1, .ref s2, .ref s3])), (s3, .inl (c3, en, .inl ft))] H → va_D A [(h0, .inr (12, [.int tb, .int (nI kb), .int (nI vb), .int (nI en), .ref s1, .ref s2, .ref s3])), (s3, .inl (c3, en, .inl ft))] → va_S A s.heap H locs → lv_has ls 4 [(0, .ref h0), (1, .int (nI ei)), (2, .int x2)] → W p l e rm_Store_hasByte s m [.ref h0, .int (nI ei), .int x2].toArray below meth c H locs (0) (0) (MQ below (q_Store_hasByte D h0 tb kb vb en s1 s2 s3 c3 ft ei x2 A) [.ref h0, .int (nI ei), .int x2].toArray s rm_Store_hasByte.cells rm_Store_hasByte.slots A) (F0 m 22 ls (.int v0_0 :: [])) := by
    intro v0_0 H locs ls hv0_0 zv0_0 hP hD hS hl
    subst hv0_0
    refine lv_istore_n (lv' := [(3, .int (fx_Store_hasByte_j0 kb x2)), (0, .ref h0), (1, .int (nI ei)), (2, .int x2)]) hx hb d_Store_hasByte_22 rfl hl (by decide) rfl (fun ls hl => ?_)
    refine lv_iload_n hx hb d_Store_hasByte_23 rfl (lv_at hl 3 rfl) ?_
    refine lv_if_eq (tgt := 66) hx hb d_Store_hasByte_24 (by decide) (fun c_2 => ?_) (fun c_2 => ?_)
    · refine lv_iconst (v := 1) hx hb d_Store_hasByte_66 (by decide) ?_
      refine lv_goto (tgt := 71) hx hb d_Store_hasByte_67 (by decide) ?_
      exact fg_retz () hx hb hr hlocks rfl ⟨(by unfold fx_Store_hasByte_r; (repeat rw [if_pos c_2]); first | done | rfl | contradiction), (Or.inl rfl)⟩ (hP.sub (ws' := [(h0, .inr (12, [.int tb, .int (nI kb), .int (nI vb), .int (nI en), .ref s1, .ref s2, .ref s3])), (s3, .inl (c3, en, .inl ft))]) [0, 1] rfl) (hK.sub (tys' := []) [] rfl) (hD.sub (ws' := [(h0, .inr (12, [.int tb, .int (nI kb), .int (nI vb), .int (nI en), .ref s1, .ref s2, .ref s3])), (s3, .inl (c3, en, .inl ft))]) [0, 1] (by decide) rfl) hS (Nat.le_of_ble_eq_true rfl) (Nat.le_of_ble_eq_true rfl) d_Store_hasByte_71
    · refine lv_iload_n hx hb d_Store_hasByte_27 rfl (lv_at hl 0 rfl) ?_
      refine lv_if_eq (tgt := 47) hx hb d_Store_hasByte_28 (by decide) (fun c_3 => ?_) (fun c_3 => ?_)
      · refine lv_iload_n hx hb d_Store_hasByte_47 rfl (lv_at hl 3 rfl) ?_
        refine lv_sipush (v := 200) hx hb d_Store_hasByte_48 (by decide) ?_
        refine lv_icmp_lt (tgt := 70) hx hb d_Store_hasByte_51 (by decide) (fun c_4 => ?_) (fun c_4 => ?_)
        · refine lv_iconst (v := 0) hx hb d_Store_hasByte_70 (by decide) ?_
          exact fg_retz () hx hb hr hlocks rfl ⟨(by unfold fx_Store_hasByte_r; (repeat rw [if_neg c_2]); (repeat rw [if_pos c_3]); (repeat rw [if_pos c_4]); first | done | rfl | contradiction), (Or.inr rfl)⟩ (hP.sub (ws' := [(h0, .inr (12, [.int tb, .int (nI kb), .int (nI vb), .int (nI en), .ref s1, .ref s2, .ref s3])), (s3, .inl (c3, en, .inl ft))]) [0, 1] rfl) (hK.sub (tys' := []) [] rfl) (hD.sub (ws' := [(h0, .inr (12, [.int tb, .int (nI kb), .int (nI vb), .int (nI en), .ref s1, .ref s2, .ref s3])), (s3, .inl (c3, en, .inl ft))]) [0, 1] (by decide) rfl) hS (Nat.le_of_ble_eq_true rfl) (Nat.le_of_ble_eq_true rfl) d_Store_hasByte_71
        · refine lv_iload_n hx hb d_Store_hasByte_54 rfl (lv_at hl 3 rfl) ?_
          refine lv_sipush (v := 200) hx hb d_Store_hasByte_55 (by decide) ?_
          refine lv_aload_n hx hb d_Store_hasByte_58 rfl (lv_at hl 1 rfl) ?_
          refine va_get (D := D) (ci := 12) (v := .int (nI vb)) (C := "FilterGuard$Store") (T := F_Store) (N := 7) hx hb hts i_Store hown hK hP 0 rfl rfl 2 (by decide) (hts _ u_906) (fun _ h9 => h9) rfl d_Store_hasByte_59 ?_
          refine lv_iadd hx hb d_Store_hasByte_62 ?_
          refine fg_topi (y := nI (200 + vb)) (nI_add 200 vb) ?_
          refine lv_icmp_ge (tgt := 70) hx hb d_Store_hasByte_63 (by decide) (fun c_5 => ?_) (fun c_5 => ?_)
          · refine lv_iconst (v := 0) hx hb d_Store_hasByte_70 (by decide) ?_
            exact fg_retz () hx hb hr hlocks rfl ⟨(by unfold fx_Store_hasByte_r; (repeat rw [if_neg c_2]); (repeat rw [if_pos c_3]); (repeat rw [if_neg c_4]); (repeat rw [if_pos c_5]); first | done | rfl | contradiction), (Or.inr rfl)⟩ (hP.sub (ws' := [(h0, .inr (12, [.int tb, .int (nI kb), .int (nI vb), .int (nI en), .ref s1, .ref s2, .ref s3])), (s3, .inl (c3, en, .inl ft))]) [0, 1] rfl) (hK.sub (tys' := []) [] rfl) (hD.sub (ws' := [(h0, .inr (12, [.int tb, .int (nI kb), .int (nI vb), .int (nI en), .ref s1, .ref s2, .ref s3])), (s3, .inl (c3, en, .inl ft))]) [0, 1] (by decide) rfl) hS (Nat.le_of_ble_eq_true rfl) (Nat.le_of_ble_eq_true rfl) d_Store_hasByte_71
          · refine lv_iconst (v := 1) hx hb d_Store_hasByte_66 (by decide) ?_
            refine lv_goto (tgt := 71) hx hb d_Store_hasByte_67 (by decide) ?_
            exact fg_retz () hx hb hr hlocks rfl ⟨(by unfold fx_Store_hasByte_r; (repeat rw [if_neg c_2]); (repeat rw [if_pos c_3]); (repeat rw [if_neg c_4]); (repeat rw [if_neg c_5]); first | done | rfl | contradiction), (Or.inl rfl)⟩ (hP.sub (ws' := [(h0, .inr (12, [.int tb, .int (nI kb), .int (nI vb), .int (nI en), .ref s1, .ref s2, .ref s3])), (s3, .inl (c3, en, .inl ft))]) [0, 1] rfl) (hK.sub (tys' := []) [] rfl) (hD.sub (ws' := [(h0, .inr (12, [.int tb, .int (nI kb), .int (nI vb), .int (nI en), .ref s1, .ref s2, .ref s3])), (s3, .inl (c3, en, .inl ft))]) [0, 1] (by decide) rfl) hS (Nat.le_of_ble_eq_true rfl) (Nat.le_of_ble_eq_true rfl) d_Store_hasByte_71
      · refine lv_aload_n hx hb d_Store_hasByte_31 rfl (lv_at hl 1 rfl) ?_
        refine va_get (D := D) (ci := 12) (v := .int tb) (C := "FilterGuard$Store") (T := F_Store) (N := 7) hx hb hts i_Store hown hK hP 0 rfl rfl 0 (by decide) (hts _ u_900) (fun _ h9 => h9) rfl d_Store_hasByte_32 ?_
        refine lv_if_eq (tgt := 47) hx hb d_Store_hasByte_35 (by decide) (fun c_6 => ?_) (fun c_6 => ?_)
        · refine lv_iload_n hx hb d_Store_hasByte_47 rfl (lv_at hl 3 rfl) ?_
          refine lv_sipush (v := 200) hx hb d_Store_hasByte_48 (by decide) ?_
          refine lv_icmp_lt (tgt := 70) hx hb d_Store_hasByte_51 (by decide) (fun c_7 => ?_) (fun c_7 => ?_)
          · refine lv_iconst (v := 0) hx hb d_Store_hasByte_70 (by decide) ?_
            exact fg_retz () hx hb hr hlocks rfl ⟨(by unfold fx_Store_hasByte_r; (repeat rw [if_neg c_2]); (repeat rw [if_neg c_3]); (repeat rw [if_pos c_6]); (repeat rw [if_pos c_7]); first | done | rfl | contradiction), (Or.inr rfl)⟩ (hP.sub (ws' := [(h0, .inr (12, [.int tb, .int (nI kb), .int (nI vb), .int (nI en), .ref s1, .ref s2, .ref s3])), (s3, .inl (c3, en, .inl ft))]) [0, 1] rfl) (hK.sub (tys' := []) [] rfl) (hD.sub (ws' := [(h0, .inr (12, [.int tb, .int (nI kb), .int (nI vb), .int (nI en), .ref s1, .ref s2, .ref s3])), (s3, .inl (c3, en, .inl ft))]) [0, 1] (by decide) rfl) hS (Nat.le_of_ble_eq_true rfl) (Nat.le_of_ble_eq_true rfl) d_Store_hasByte_71
          · refine lv_iload_n hx hb d_Store_hasByte_54 rfl (lv_at hl 3 rfl) ?_
            refine lv_sipush (v := 200) hx hb d_Store_hasByte_55 (by decide) ?_
            refine lv_aload_n hx hb d_Store_hasByte_58 rfl (lv_at hl 1 rfl) ?_
            refine va_get (D := D) (ci := 12) (v := .int (nI vb)) (C := "FilterGuard$Store") (T := F_Store) (N := 7) hx hb hts i_Store hown hK hP 0 rfl rfl 2 (by decide) (hts _ u_906) (fun _ h9 => h9) rfl d_Store_hasByte_59 ?_
            refine lv_iadd hx hb d_Store_hasByte_62 ?_
            refine fg_topi (y := nI (200 + vb)) (nI_add 200 vb) ?_
            refine lv_icmp_ge (tgt := 70) hx hb d_Store_hasByte_63 (by decide) (fun c_8 => ?_) (fun c_8 => ?_)
            · refine lv_iconst (v := 0) hx hb d_Store_hasByte_70 (by decide) ?_
              exact fg_retz () hx hb hr hlocks rfl ⟨(by unfold fx_Store_hasByte_r; (repeat rw [if_neg c_2]); (repeat rw [if_neg c_3]); (repeat rw [if_pos c_6]); (repeat rw [if_neg c_7]); (repeat rw [if_pos c_8]); first | done | rfl | contradiction), (Or.inr rfl)⟩ (hP.sub (ws' := [(h0, .inr (12, [.int tb, .int (nI kb), .int (nI vb), .int (nI en), .ref s1, .ref s2, .ref s3])), (s3, .inl (c3, en, .inl ft))]) [0, 1] rfl) (hK.sub (tys' := []) [] rfl) (hD.sub (ws' := [(h0, .inr (12, [.int tb, .int (nI kb), .int (nI vb), .int (nI en), .ref s1, .ref s2, .ref s3])), (s3, .inl (c3, en, .inl ft))]) [0, 1] (by decide) rfl) hS (Nat.le_of_ble_eq_true rfl) (Nat.le_of_ble_eq_true rfl) d_Store_hasByte_71
            · refine lv_iconst (v := 1) hx hb d_Store_hasByte_66 (by decide) ?_
              refine lv_goto (tgt := 71) hx hb d_Store_hasByte_67 (by decide) ?_
              exact fg_retz () hx hb hr hlocks rfl ⟨(by unfold fx_Store_hasByte_r; (repeat rw [if_neg c_2]); (repeat rw [if_neg c_3]); (repeat rw [if_pos c_6]); (repeat rw [if_neg c_7]); (repeat rw [if_neg c_8]); first | done | rfl | contradiction), (Or.inl rfl)⟩ (hP.sub (ws' := [(h0, .inr (12, [.int tb, .int (nI kb), .int (nI vb), .int (nI en), .ref s1, .ref s2, .ref s3])), (s3, .inl (c3, en, .inl ft))]) [0, 1] rfl) (hK.sub (tys' := []) [] rfl) (hD.sub (ws' := [(h0, .inr (12, [.int tb, .int (nI kb), .int (nI vb), .int (nI en), .ref s1, .ref s2, .ref s3])), (s3, .inl (c3, en, .inl ft))]) [0, 1] (by decide) rfl) hS (Nat.le_of_ble_eq_true rfl) (Nat.le_of_ble_eq_true rfl) d_Store_hasByte_71
        · refine lv_aload_n hx hb d_Store_hasByte_38 rfl (lv_at hl 1 rfl) ?_
          refine va_get (D := D) (ci := 12) (v := .ref s3) (C := "FilterGuard$Store") (T := F_Store) (N := 7) hx hb hts i_Store hown hK hP 0 rfl rfl 6 (by decide) (hts _ u_917) (fun _ h9 => h9) rfl d_Store_hasByte_39 ?_
          refine lv_iload_n hx hb d_Store_hasByte_42 rfl (lv_at hl 2 rfl) ?_
          have hi9 := (show ei < en by omega)
          refine va_zald hx hb hK hP 1 0 rfl rfl (nI_in (show ei < en by omega) (by omega)) d_Store_hasByte_43 ?_
          refine fg_topi (y := ft ei) (by rw [nI_clamp (by omega)]) ?_
          refine lv_if_ne (tgt := 66) hx hb d_Store_hasByte_44 (by decide) (fun c_9 => ?_) (fun c_9 => ?_)
          · refine lv_iconst (v := 1) hx hb d_Store_hasByte_66 (by decide) ?_
            refine lv_goto (tgt := 71) hx hb d_Store_hasByte_67 (by decide) ?_
            exact fg_retz () hx hb hr hlocks rfl ⟨(by unfold fx_Store_hasByte_r; (repeat rw [if_neg c_2]); (repeat rw [if_neg c_3]); (repeat rw [if_neg c_6]); (repeat rw [if_neg c_9]); first | done | rfl | contradiction), (Or.inl rfl)⟩ (hP.sub (ws' := [(h0, .inr (12, [.int tb, .int (nI kb), .int (nI vb), .int (nI en), .ref s1, .ref s2, .ref s3])), (s3, .inl (c3, en, .inl ft))]) [0, 1] rfl) (hK.sub (tys' := []) [] rfl) (hD.sub (ws' := [(h0, .inr (12, [.int tb, .int (nI kb), .int (nI vb), .int (nI en), .ref s1, .ref s2, .ref s3])), (s3, .inl (c3, en, .inl ft))]) [0, 1] (by decide) rfl) hS (Nat.le_of_ble_eq_true rfl) (Nat.le_of_ble_eq_true rfl) d_Store_hasByte_71
          · refine lv_iload_n hx hb d_Store_hasByte_47 rfl (lv_at hl 3 rfl) ?_
            refine lv_sipush (v := 200) hx hb d_Store_hasByte_48 (by decide) ?_
            refine lv_icmp_lt (tgt := 70) hx hb d_Store_hasByte_51 (by decide) (fun c_10 => ?_) (fun c_10 => ?_)
            · refine lv_iconst (v := 0) hx hb d_Store_hasByte_70 (by decide) ?_
              exact fg_retz () hx hb hr hlocks rfl ⟨(by unfold fx_Store_hasByte_r; (repeat rw [if_neg c_2]); (repeat rw [if_neg c_3]); (repeat rw [if_neg c_6]); (repeat rw [if_pos c_9]); (repeat rw [if_pos c_10]); first | done | rfl | contradiction), (Or.inr rfl)⟩ (hP.sub (ws' := [(h0, .inr (12, [.int tb, .int (nI kb), .int (nI vb), .int (nI en), .ref s1, .ref s2, .ref s3])), (s3, .inl (c3, en, .inl ft))]) [0, 1] rfl) (hK.sub (tys' := []) [] rfl) (hD.sub (ws' := [(h0, .inr (12, [.int tb, .int (nI kb), .int (nI vb), .int (nI en), .ref s1, .ref s2, .ref s3])), (s3, .inl (c3, en, .inl ft))]) [0, 1] (by decide) rfl) hS (Nat.le_of_ble_eq_true rfl) (Nat.le_of_ble_eq_true rfl) d_Store_hasByte_71
            · refine lv_iload_n hx hb d_Store_hasByte_54 rfl (lv_at hl 3 rfl) ?_
              refine lv_sipush (v := 200) hx hb d_Store_hasByte_55 (by decide) ?_
              refine lv_aload_n hx hb d_Store_hasByte_58 rfl (lv_at hl 1 rfl) ?_
              refine va_get (D := D) (ci := 12) (v := .int (nI vb)) (C := "FilterGuard$Store") (T := F_Store) (N := 7) hx hb hts i_Store hown hK hP 0 rfl rfl 2 (by decide) (hts _ u_906) (fun _ h9 => h9) rfl d_Store_hasByte_59 ?_
              refine lv_iadd hx hb d_Store_hasByte_62 ?_
              refine fg_topi (y := nI (200 + vb)) (nI_add 200 vb) ?_
              refine lv_icmp_ge (tgt := 70) hx hb d_Store_hasByte_63 (by decide) (fun c_11 => ?_) (fun c_11 => ?_)
              · refine lv_iconst (v := 0) hx hb d_Store_hasByte_70 (by decide) ?_
                exact fg_retz () hx hb hr hlocks rfl ⟨(by unfold fx_Store_hasByte_r; (repeat rw [if_neg c_2]); (repeat rw [if_neg c_3]); (repeat rw [if_neg c_6]); (repeat rw [if_pos c_9]); (repeat rw [if_neg c_10]); (repeat rw [if_pos c_11]); first | done | rfl | contradiction), (Or.inr rfl)⟩ (hP.sub (ws' := [(h0, .inr (12, [.int tb, .int (nI kb), .int (nI vb), .int (nI en), .ref s1, .ref s2, .ref s3])), (s3, .inl (c3, en, .inl ft))]) [0, 1] rfl) (hK.sub (tys' := []) [] rfl) (hD.sub (ws' := [(h0, .inr (12, [.int tb, .int (nI kb), .int (nI vb), .int (nI en), .ref s1, .ref s2, .ref s3])), (s3, .inl (c3, en, .inl ft))]) [0, 1] (by decide) rfl) hS (Nat.le_of_ble_eq_true rfl) (Nat.le_of_ble_eq_true rfl) d_Store_hasByte_71
              · refine lv_iconst (v := 1) hx hb d_Store_hasByte_66 (by decide) ?_
                refine lv_goto (tgt := 71) hx hb d_Store_hasByte_67 (by decide) ?_
                exact fg_retz () hx hb hr hlocks rfl ⟨(by unfold fx_Store_hasByte_r; (repeat rw [if_neg c_2]); (repeat rw [if_neg c_3]); (repeat rw [if_neg c_6]); (repeat rw [if_pos c_9]); (repeat rw [if_neg c_10]); (repeat rw [if_neg c_11]); first | done | rfl | contradiction), (Or.inl rfl)⟩ (hP.sub (ws' := [(h0, .inr (12, [.int tb, .int (nI kb), .int (nI vb), .int (nI en), .ref s1, .ref s2, .ref s3])), (s3, .inl (c3, en, .inl ft))]) [0, 1] rfl) (hK.sub (tys' := []) [] rfl) (hD.sub (ws' := [(h0, .inr (12, [.int tb, .int (nI kb), .int (nI vb), .int (nI en), .ref s1, .ref s2, .ref s3])), (s3, .inl (c3, en, .inl ft))]) [0, 1] (by decide) rfl) hS (Nat.le_of_ble_eq_true rfl) (Nat.le_of_ble_eq_true rfl) d_Store_hasByte_71
  refine lv_iload_n hx hb d_Store_hasByte_0 rfl (lv_at hl 2 rfl) ?_
  refine lv_bipush (v := 100) hx hb d_Store_hasByte_1 (by decide) ?_
  refine lv_icmp_lt (tgt := 21) hx hb d_Store_hasByte_3 (by decide) (fun c_12 => ?_) (fun c_12 => ?_)
  · refine lv_iconst (v := 0) hx hb d_Store_hasByte_21 (by decide) ?_
    exact j0_0 0 _ _ _ (by unfold fx_Store_hasByte_j0; (repeat rw [if_pos c_12]); first | done | rfl | contradiction) (Or.inr rfl) (hP.sub (ws' := [(h0, .inr (12, [.int tb, .int (nI kb), .int (nI vb), .int (nI en), .ref s1, .ref s2, .ref s3])), (s3, .inl (c3, en, .inl ft))]) [0, 1] rfl) (hD.sub (ws' := [(h0, .inr (12, [.int tb, .int (nI kb), .int (nI vb), .int (nI en), .ref s1, .ref s2, .ref s3])), (s3, .inl (c3, en, .inl ft))]) [0, 1] (by decide) rfl) hS (lv_sub hl [0, 1, 2] rfl)
  · refine lv_iload_n hx hb d_Store_hasByte_6 rfl (lv_at hl 2 rfl) ?_
    refine lv_bipush (v := 100) hx hb d_Store_hasByte_7 (by decide) ?_
    refine lv_aload_n hx hb d_Store_hasByte_9 rfl (lv_at hl 0 rfl) ?_
    refine va_get (D := D) (ci := 12) (v := .int (nI kb)) (C := "FilterGuard$Store") (T := F_Store) (N := 7) hx hb hts i_Store hown hK hP 0 rfl rfl 1 (by decide) (hts _ u_901) (fun _ h9 => h9) rfl d_Store_hasByte_10 ?_
    refine lv_iadd hx hb d_Store_hasByte_13 ?_
    refine fg_topi (y := nI (100 + kb)) (nI_add 100 kb) ?_
    refine lv_icmp_ge (tgt := 21) hx hb d_Store_hasByte_14 (by decide) (fun c_13 => ?_) (fun c_13 => ?_)
    · refine lv_iconst (v := 0) hx hb d_Store_hasByte_21 (by decide) ?_
      exact j0_0 0 _ _ _ (by unfold fx_Store_hasByte_j0; (repeat rw [if_neg c_12]); (repeat rw [if_pos c_13]); first | done | rfl | contradiction) (Or.inr rfl) (hP.sub (ws' := [(h0, .inr (12, [.int tb, .int (nI kb), .int (nI vb), .int (nI en), .ref s1, .ref s2, .ref s3])), (s3, .inl (c3, en, .inl ft))]) [0, 1] rfl) (hD.sub (ws' := [(h0, .inr (12, [.int tb, .int (nI kb), .int (nI vb), .int (nI en), .ref s1, .ref s2, .ref s3])), (s3, .inl (c3, en, .inl ft))]) [0, 1] (by decide) rfl) hS (lv_sub hl [0, 1, 2] rfl)
    · refine lv_iconst (v := 1) hx hb d_Store_hasByte_17 (by decide) ?_
      refine lv_goto (tgt := 22) hx hb d_Store_hasByte_18 (by decide) ?_
      exact j0_0 1 _ _ _ (by unfold fx_Store_hasByte_j0; (repeat rw [if_neg c_12]); (repeat rw [if_neg c_13]); first | done | rfl | contradiction) (Or.inl rfl) (hP.sub (ws' := [(h0, .inr (12, [.int tb, .int (nI kb), .int (nI vb), .int (nI en), .ref s1, .ref s2, .ref s3])), (s3, .inl (c3, en, .inl ft))]) [0, 1] rfl) (hD.sub (ws' := [(h0, .inr (12, [.int tb, .int (nI kb), .int (nI vb), .int (nI en), .ref s1, .ref s2, .ref s3])), (s3, .inl (c3, en, .inl ft))]) [0, 1] (by decide) rfl) hS (lv_sub hl [0, 1, 2] rfl)
