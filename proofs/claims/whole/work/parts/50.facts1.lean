abbrev y_Facts_clear : MethodName := ⟨"FilterGuard$Facts", "clear", "(I)V"⟩
theorem d_Facts_clear_0 : decode prog_6_method_2_code 0 = .ok (.iconst 0, 1) := by decide +kernel
theorem d_Facts_clear_1 : decode prog_6_method_2_code 1 = .ok (.istore_n 2, 1) := by decide +kernel
theorem d_Facts_clear_2 : decode prog_6_method_2_code 2 = .ok (.iload_n 2, 1) := by decide +kernel
theorem d_Facts_clear_3 : decode prog_6_method_2_code 3 = .ok (.iload_n 1, 1) := by decide +kernel
theorem d_Facts_clear_4 : decode prog_6_method_2_code 4 = .ok (.if_icmp .ge 44, 3) := by decide +kernel
theorem d_Facts_clear_48 : decode prog_6_method_2_code 48 = .ok (.return_, 1) := by decide +kernel
theorem d_Facts_clear_7 : decode prog_6_method_2_code 7 = .ok (.aload_n 0, 1) := by decide +kernel
theorem d_Facts_clear_8 : decode prog_6_method_2_code 8 = .ok (.getfield 9, 3) := by decide +kernel
theorem d_Facts_clear_11 : decode prog_6_method_2_code 11 = .ok (.iload_n 2, 1) := by decide +kernel
theorem d_Facts_clear_12 : decode prog_6_method_2_code 12 = .ok (.iconst 0, 1) := by decide +kernel
theorem d_Facts_clear_13 : decode prog_6_method_2_code 13 = .ok (.iastore, 1) := by decide +kernel
theorem d_Facts_clear_14 : decode prog_6_method_2_code 14 = .ok (.aload_n 0, 1) := by decide +kernel
theorem d_Facts_clear_15 : decode prog_6_method_2_code 15 = .ok (.getfield 15, 3) := by decide +kernel
theorem d_Facts_clear_18 : decode prog_6_method_2_code 18 = .ok (.iload_n 2, 1) := by decide +kernel
theorem d_Facts_clear_19 : decode prog_6_method_2_code 19 = .ok (.iconst 0, 1) := by decide +kernel
theorem d_Facts_clear_20 : decode prog_6_method_2_code 20 = .ok (.bastore, 1) := by decide +kernel
theorem d_Facts_clear_21 : decode prog_6_method_2_code 21 = .ok (.aload_n 0, 1) := by decide +kernel
theorem d_Facts_clear_22 : decode prog_6_method_2_code 22 = .ok (.getfield 19, 3) := by decide +kernel
theorem d_Facts_clear_25 : decode prog_6_method_2_code 25 = .ok (.iload_n 2, 1) := by decide +kernel
theorem d_Facts_clear_26 : decode prog_6_method_2_code 26 = .ok (.iconst 0, 1) := by decide +kernel
theorem d_Facts_clear_27 : decode prog_6_method_2_code 27 = .ok (.bastore, 1) := by decide +kernel
theorem d_Facts_clear_28 : decode prog_6_method_2_code 28 = .ok (.aload_n 0, 1) := by decide +kernel
theorem d_Facts_clear_29 : decode prog_6_method_2_code 29 = .ok (.getfield 22, 3) := by decide +kernel
theorem d_Facts_clear_32 : decode prog_6_method_2_code 32 = .ok (.iload_n 2, 1) := by decide +kernel
theorem d_Facts_clear_33 : decode prog_6_method_2_code 33 = .ok (.iconst 0, 1) := by decide +kernel
theorem d_Facts_clear_34 : decode prog_6_method_2_code 34 = .ok (.iastore, 1) := by decide +kernel
theorem d_Facts_clear_35 : decode prog_6_method_2_code 35 = .ok (.aload_n 0, 1) := by decide +kernel
theorem d_Facts_clear_36 : decode prog_6_method_2_code 36 = .ok (.getfield 25, 3) := by decide +kernel
theorem d_Facts_clear_39 : decode prog_6_method_2_code 39 = .ok (.iload_n 2, 1) := by decide +kernel
theorem d_Facts_clear_40 : decode prog_6_method_2_code 40 = .ok (.lconst 0, 1) := by decide +kernel
theorem d_Facts_clear_41 : decode prog_6_method_2_code 41 = .ok (.lastore, 1) := by decide +kernel
theorem d_Facts_clear_42 : decode prog_6_method_2_code 42 = .ok (.iinc 2 1, 3) := by decide +kernel
theorem d_Facts_clear_45 : decode prog_6_method_2_code 45 = .ok (.goto (-43), 3) := by decide +kernel
abbrev y_Facts_visit : MethodName := ⟨"FilterGuard$Facts", "visit", "(I)V"⟩
theorem d_Facts_visit_0 : decode prog_6_method_3_code 0 = .ok (.aload_n 0, 1) := by decide +kernel
theorem d_Facts_visit_1 : decode prog_6_method_3_code 1 = .ok (.getfield 9, 3) := by decide +kernel
theorem d_Facts_visit_4 : decode prog_6_method_3_code 4 = .ok (.iload_n 1, 1) := by decide +kernel
theorem d_Facts_visit_5 : decode prog_6_method_3_code 5 = .ok (.dup2, 1) := by decide +kernel
theorem d_Facts_visit_6 : decode prog_6_method_3_code 6 = .ok (.iaload, 1) := by decide +kernel
theorem d_Facts_visit_7 : decode prog_6_method_3_code 7 = .ok (.iconst 1, 1) := by decide +kernel
theorem d_Facts_visit_8 : decode prog_6_method_3_code 8 = .ok (.iadd, 1) := by decide +kernel
theorem d_Facts_visit_9 : decode prog_6_method_3_code 9 = .ok (.iastore, 1) := by decide +kernel
theorem d_Facts_visit_10 : decode prog_6_method_3_code 10 = .ok (.return_, 1) := by decide +kernel
abbrev y_Facts_part : MethodName := ⟨"FilterGuard$Facts", "part", "(IZZ)V"⟩
theorem d_Facts_part_0 : decode prog_6_method_4_code 0 = .ok (.aload_n 0, 1) := by decide +kernel
theorem d_Facts_part_1 : decode prog_6_method_4_code 1 = .ok (.getfield 15, 3) := by decide +kernel
theorem d_Facts_part_4 : decode prog_6_method_4_code 4 = .ok (.iload_n 1, 1) := by decide +kernel
theorem d_Facts_part_5 : decode prog_6_method_4_code 5 = .ok (.dup2, 1) := by decide +kernel
theorem d_Facts_part_6 : decode prog_6_method_4_code 6 = .ok (.baload, 1) := by decide +kernel
theorem d_Facts_part_7 : decode prog_6_method_4_code 7 = .ok (.iload_n 2, 1) := by decide +kernel
theorem d_Facts_part_8 : decode prog_6_method_4_code 8 = .ok (.ior, 1) := by decide +kernel
theorem d_Facts_part_9 : decode prog_6_method_4_code 9 = .ok (.bastore, 1) := by decide +kernel
theorem d_Facts_part_10 : decode prog_6_method_4_code 10 = .ok (.aload_n 0, 1) := by decide +kernel
theorem d_Facts_part_11 : decode prog_6_method_4_code 11 = .ok (.getfield 19, 3) := by decide +kernel
theorem d_Facts_part_14 : decode prog_6_method_4_code 14 = .ok (.iload_n 1, 1) := by decide +kernel
theorem d_Facts_part_15 : decode prog_6_method_4_code 15 = .ok (.dup2, 1) := by decide +kernel
theorem d_Facts_part_16 : decode prog_6_method_4_code 16 = .ok (.baload, 1) := by decide +kernel
theorem d_Facts_part_17 : decode prog_6_method_4_code 17 = .ok (.iload_n 3, 1) := by decide +kernel
theorem d_Facts_part_18 : decode prog_6_method_4_code 18 = .ok (.ior, 1) := by decide +kernel
theorem d_Facts_part_19 : decode prog_6_method_4_code 19 = .ok (.bastore, 1) := by decide +kernel
theorem d_Facts_part_20 : decode prog_6_method_4_code 20 = .ok (.return_, 1) := by decide +kernel
abbrev y_Facts_reckon : MethodName := ⟨"FilterGuard$Facts", "reckon", "(ILFilterGuard$Cell;)V"⟩
theorem d_Facts_reckon_0 : decode prog_6_method_5_code 0 = .ok (.aload_n 2, 1) := by decide +kernel
theorem d_Facts_reckon_1 : decode prog_6_method_5_code 1 = .ok (.getfield 35, 3) := by decide +kernel
theorem u_423 : Cond.fieldLink "FilterGuard$Facts" 35 "FilterGuard$Cell" "kind" "I" ∈ fg_g := fg_in (List.mem_of_getElem? (i := 423) (by decide +kernel)) rfl
theorem d_Facts_reckon_4 : decode prog_6_method_5_code 4 = .ok (.iconst 1, 1) := by decide +kernel
theorem d_Facts_reckon_5 : decode prog_6_method_5_code 5 = .ok (.if_icmp .ne 17, 3) := by decide +kernel
theorem d_Facts_reckon_22 : decode prog_6_method_5_code 22 = .ok (.iconst 0, 1) := by decide +kernel
theorem d_Facts_reckon_8 : decode prog_6_method_5_code 8 = .ok (.aload_n 2, 1) := by decide +kernel
theorem d_Facts_reckon_9 : decode prog_6_method_5_code 9 = .ok (.getfield 41, 3) := by decide +kernel
theorem u_436 : Cond.fieldLink "FilterGuard$Facts" 41 "FilterGuard$Cell" "number" "LFilterGuard$Num;" ∈ fg_g := fg_in (List.mem_of_getElem? (i := 436) (by decide +kernel)) rfl
theorem d_Facts_reckon_12 : decode prog_6_method_5_code 12 = .ok (.invokevirtual 45, 3) := by decide +kernel
theorem u_1438 : Cond.methodLink "FilterGuard$Facts" 45 ⟨"FilterGuard$Num", "isExact", "()Z"⟩ ∈ fg_g := fg_in (List.mem_of_getElem? (i := 1438) (by decide +kernel)) rfl
theorem d_Facts_reckon_15 : decode prog_6_method_5_code 15 = .ok (.ifCond .eq 7, 3) := by decide +kernel
theorem d_Facts_reckon_18 : decode prog_6_method_5_code 18 = .ok (.iconst 1, 1) := by decide +kernel
theorem d_Facts_reckon_19 : decode prog_6_method_5_code 19 = .ok (.goto 4, 3) := by decide +kernel
theorem d_Facts_reckon_23 : decode prog_6_method_5_code 23 = .ok (.istore_n 3, 1) := by decide +kernel
theorem d_Facts_reckon_24 : decode prog_6_method_5_code 24 = .ok (.aload_n 0, 1) := by decide +kernel
theorem d_Facts_reckon_25 : decode prog_6_method_5_code 25 = .ok (.getfield 22, 3) := by decide +kernel
theorem d_Facts_reckon_28 : decode prog_6_method_5_code 28 = .ok (.iload_n 1, 1) := by decide +kernel
theorem d_Facts_reckon_29 : decode prog_6_method_5_code 29 = .ok (.iaload, 1) := by decide +kernel
theorem d_Facts_reckon_30 : decode prog_6_method_5_code 30 = .ok (.ifCond .ne 30, 3) := by decide +kernel
theorem d_Facts_reckon_60 : decode prog_6_method_5_code 60 = .ok (.iload_n 3, 1) := by decide +kernel
theorem d_Facts_reckon_61 : decode prog_6_method_5_code 61 = .ok (.ifCond .eq 20, 3) := by decide +kernel
theorem d_Facts_reckon_81 : decode prog_6_method_5_code 81 = .ok (.aload_n 0, 1) := by decide +kernel
theorem d_Facts_reckon_82 : decode prog_6_method_5_code 82 = .ok (.getfield 22, 3) := by decide +kernel
theorem d_Facts_reckon_85 : decode prog_6_method_5_code 85 = .ok (.iload_n 1, 1) := by decide +kernel
theorem d_Facts_reckon_86 : decode prog_6_method_5_code 86 = .ok (.iconst 2, 1) := by decide +kernel
theorem d_Facts_reckon_87 : decode prog_6_method_5_code 87 = .ok (.iastore, 1) := by decide +kernel
theorem d_Facts_reckon_88 : decode prog_6_method_5_code 88 = .ok (.return_, 1) := by decide +kernel
theorem d_Facts_reckon_64 : decode prog_6_method_5_code 64 = .ok (.aload_n 2, 1) := by decide +kernel
theorem d_Facts_reckon_65 : decode prog_6_method_5_code 65 = .ok (.getfield 41, 3) := by decide +kernel
theorem d_Facts_reckon_68 : decode prog_6_method_5_code 68 = .ok (.getfield 51, 3) := by decide +kernel
theorem u_369 : Cond.fieldLink "FilterGuard$Facts" 51 "FilterGuard$Num" "value" "J" ∈ fg_g := fg_in (List.mem_of_getElem? (i := 369) (by decide +kernel)) rfl
theorem d_Facts_reckon_71 : decode prog_6_method_5_code 71 = .ok (.aload_n 0, 1) := by decide +kernel
theorem d_Facts_reckon_72 : decode prog_6_method_5_code 72 = .ok (.getfield 25, 3) := by decide +kernel
theorem d_Facts_reckon_75 : decode prog_6_method_5_code 75 = .ok (.iload_n 1, 1) := by decide +kernel
theorem d_Facts_reckon_76 : decode prog_6_method_5_code 76 = .ok (.laload, 1) := by decide +kernel
theorem d_Facts_reckon_77 : decode prog_6_method_5_code 77 = .ok (.lcmp, 1) := by decide +kernel
theorem d_Facts_reckon_78 : decode prog_6_method_5_code 78 = .ok (.ifCond .eq 10, 3) := by decide +kernel
theorem d_Facts_reckon_33 : decode prog_6_method_5_code 33 = .ok (.iload_n 3, 1) := by decide +kernel
theorem d_Facts_reckon_34 : decode prog_6_method_5_code 34 = .ok (.ifCond .eq 26, 3) := by decide +kernel
theorem d_Facts_reckon_37 : decode prog_6_method_5_code 37 = .ok (.aload_n 0, 1) := by decide +kernel
theorem d_Facts_reckon_38 : decode prog_6_method_5_code 38 = .ok (.getfield 22, 3) := by decide +kernel
theorem d_Facts_reckon_41 : decode prog_6_method_5_code 41 = .ok (.iload_n 1, 1) := by decide +kernel
theorem d_Facts_reckon_42 : decode prog_6_method_5_code 42 = .ok (.iconst 1, 1) := by decide +kernel
theorem d_Facts_reckon_43 : decode prog_6_method_5_code 43 = .ok (.iastore, 1) := by decide +kernel
theorem d_Facts_reckon_44 : decode prog_6_method_5_code 44 = .ok (.aload_n 0, 1) := by decide +kernel
theorem d_Facts_reckon_45 : decode prog_6_method_5_code 45 = .ok (.getfield 25, 3) := by decide +kernel
theorem d_Facts_reckon_48 : decode prog_6_method_5_code 48 = .ok (.iload_n 1, 1) := by decide +kernel
theorem d_Facts_reckon_49 : decode prog_6_method_5_code 49 = .ok (.aload_n 2, 1) := by decide +kernel
theorem d_Facts_reckon_50 : decode prog_6_method_5_code 50 = .ok (.getfield 41, 3) := by decide +kernel
theorem d_Facts_reckon_53 : decode prog_6_method_5_code 53 = .ok (.getfield 51, 3) := by decide +kernel
theorem d_Facts_reckon_56 : decode prog_6_method_5_code 56 = .ok (.lastore, 1) := by decide +kernel
theorem d_Facts_reckon_57 : decode prog_6_method_5_code 57 = .ok (.goto 31, 3) := by decide +kernel
abbrev y_Facts_answer : MethodName := ⟨"FilterGuard$Facts", "answer", "(II)J"⟩
theorem d_Facts_answer_0 : decode prog_6_method_6_code 0 = .ok (.aload_n 0, 1) := by decide +kernel
theorem d_Facts_answer_1 : decode prog_6_method_6_code 1 = .ok (.getfield 22, 3) := by decide +kernel
theorem d_Facts_answer_4 : decode prog_6_method_6_code 4 = .ok (.iload_n 1, 1) := by decide +kernel
theorem d_Facts_answer_5 : decode prog_6_method_6_code 5 = .ok (.iaload, 1) := by decide +kernel
theorem d_Facts_answer_6 : decode prog_6_method_6_code 6 = .ok (.iconst 1, 1) := by decide +kernel
theorem d_Facts_answer_7 : decode prog_6_method_6_code 7 = .ok (.if_icmp .ne 7, 3) := by decide +kernel
theorem d_Facts_answer_14 : decode prog_6_method_6_code 14 = .ok (.iconst 0, 1) := by decide +kernel
theorem d_Facts_answer_10 : decode prog_6_method_6_code 10 = .ok (.iconst 1, 1) := by decide +kernel
theorem d_Facts_answer_11 : decode prog_6_method_6_code 11 = .ok (.goto 4, 3) := by decide +kernel
theorem d_Facts_answer_15 : decode prog_6_method_6_code 15 = .ok (.istore_n 3, 1) := by decide +kernel
theorem d_Facts_answer_16 : decode prog_6_method_6_code 16 = .ok (.iload_n 2, 1) := by decide +kernel
theorem d_Facts_answer_17 : decode prog_6_method_6_code 17 = .ok (.tableswitch 79 0 3 #[31, 39, 54, 69], 31) := by decide +kernel
theorem d_Facts_answer_48 : decode prog_6_method_6_code 48 = .ok (.aload_n 0, 1) := by decide +kernel
theorem d_Facts_answer_49 : decode prog_6_method_6_code 49 = .ok (.getfield 9, 3) := by decide +kernel
theorem d_Facts_answer_52 : decode prog_6_method_6_code 52 = .ok (.iload_n 1, 1) := by decide +kernel
theorem d_Facts_answer_53 : decode prog_6_method_6_code 53 = .ok (.iaload, 1) := by decide +kernel
theorem d_Facts_answer_54 : decode prog_6_method_6_code 54 = .ok (.i2l, 1) := by decide +kernel
theorem d_Facts_answer_55 : decode prog_6_method_6_code 55 = .ok (.lreturn, 1) := by decide +kernel
theorem d_Facts_answer_56 : decode prog_6_method_6_code 56 = .ok (.aload_n 0, 1) := by decide +kernel
theorem d_Facts_answer_57 : decode prog_6_method_6_code 57 = .ok (.getfield 15, 3) := by decide +kernel
theorem d_Facts_answer_60 : decode prog_6_method_6_code 60 = .ok (.iload_n 1, 1) := by decide +kernel
theorem d_Facts_answer_61 : decode prog_6_method_6_code 61 = .ok (.baload, 1) := by decide +kernel
theorem d_Facts_answer_62 : decode prog_6_method_6_code 62 = .ok (.ifCond .eq 7, 3) := by decide +kernel
theorem d_Facts_answer_69 : decode prog_6_method_6_code 69 = .ok (.lconst 0, 1) := by decide +kernel
theorem d_Facts_answer_70 : decode prog_6_method_6_code 70 = .ok (.lreturn, 1) := by decide +kernel
theorem d_Facts_answer_65 : decode prog_6_method_6_code 65 = .ok (.lconst 1, 1) := by decide +kernel
theorem d_Facts_answer_66 : decode prog_6_method_6_code 66 = .ok (.goto 4, 3) := by decide +kernel
theorem d_Facts_answer_71 : decode prog_6_method_6_code 71 = .ok (.aload_n 0, 1) := by decide +kernel
theorem d_Facts_answer_72 : decode prog_6_method_6_code 72 = .ok (.getfield 19, 3) := by decide +kernel
theorem d_Facts_answer_75 : decode prog_6_method_6_code 75 = .ok (.iload_n 1, 1) := by decide +kernel
theorem d_Facts_answer_76 : decode prog_6_method_6_code 76 = .ok (.baload, 1) := by decide +kernel
theorem d_Facts_answer_77 : decode prog_6_method_6_code 77 = .ok (.ifCond .eq 7, 3) := by decide +kernel
theorem d_Facts_answer_84 : decode prog_6_method_6_code 84 = .ok (.lconst 0, 1) := by decide +kernel
theorem d_Facts_answer_85 : decode prog_6_method_6_code 85 = .ok (.lreturn, 1) := by decide +kernel
theorem d_Facts_answer_80 : decode prog_6_method_6_code 80 = .ok (.lconst 1, 1) := by decide +kernel
theorem d_Facts_answer_81 : decode prog_6_method_6_code 81 = .ok (.goto 4, 3) := by decide +kernel
theorem d_Facts_answer_86 : decode prog_6_method_6_code 86 = .ok (.iload_n 3, 1) := by decide +kernel
theorem d_Facts_answer_87 : decode prog_6_method_6_code 87 = .ok (.ifCond .eq 7, 3) := by decide +kernel
theorem d_Facts_answer_94 : decode prog_6_method_6_code 94 = .ok (.lconst 0, 1) := by decide +kernel
theorem d_Facts_answer_95 : decode prog_6_method_6_code 95 = .ok (.lreturn, 1) := by decide +kernel
theorem d_Facts_answer_90 : decode prog_6_method_6_code 90 = .ok (.lconst 1, 1) := by decide +kernel
theorem d_Facts_answer_91 : decode prog_6_method_6_code 91 = .ok (.goto 4, 3) := by decide +kernel
theorem d_Facts_answer_96 : decode prog_6_method_6_code 96 = .ok (.iload_n 3, 1) := by decide +kernel
theorem d_Facts_answer_97 : decode prog_6_method_6_code 97 = .ok (.ifCond .eq 12, 3) := by decide +kernel
theorem d_Facts_answer_109 : decode prog_6_method_6_code 109 = .ok (.lconst 0, 1) := by decide +kernel
theorem d_Facts_answer_110 : decode prog_6_method_6_code 110 = .ok (.lreturn, 1) := by decide +kernel
theorem d_Facts_answer_100 : decode prog_6_method_6_code 100 = .ok (.aload_n 0, 1) := by decide +kernel
theorem d_Facts_answer_101 : decode prog_6_method_6_code 101 = .ok (.getfield 25, 3) := by decide +kernel
theorem d_Facts_answer_104 : decode prog_6_method_6_code 104 = .ok (.iload_n 1, 1) := by decide +kernel
theorem d_Facts_answer_105 : decode prog_6_method_6_code 105 = .ok (.laload, 1) := by decide +kernel
theorem d_Facts_answer_106 : decode prog_6_method_6_code 106 = .ok (.goto 4, 3) := by decide +kernel
abbrev y_Facts_changed : MethodName := ⟨"FilterGuard$Facts", "changed", "(LFilterGuard$Code;I)J"⟩
theorem d_Facts_changed_0 : decode prog_6_method_8_code 0 = .ok (.aload_n 1, 1) := by decide +kernel
theorem d_Facts_changed_1 : decode prog_6_method_8_code 1 = .ok (.getfield 67, 3) := by decide +kernel
theorem u_255 : Cond.fieldLink "FilterGuard$Facts" 67 "FilterGuard$Code" "family" "I" ∈ fg_g := fg_in (List.mem_of_getElem? (i := 255) (by decide +kernel)) rfl
theorem d_Facts_changed_4 : decode prog_6_method_8_code 4 = .ok (.bipush 8, 2) := by decide +kernel
theorem d_Facts_changed_6 : decode prog_6_method_8_code 6 = .ok (.if_icmp .ne 38, 3) := by decide +kernel
theorem d_Facts_changed_44 : decode prog_6_method_8_code 44 = .ok (.aload_n 0, 1) := by decide +kernel
theorem d_Facts_changed_45 : decode prog_6_method_8_code 45 = .ok (.getfield 25, 3) := by decide +kernel
theorem d_Facts_changed_48 : decode prog_6_method_8_code 48 = .ok (.iload_n 2, 1) := by decide +kernel
theorem d_Facts_changed_49 : decode prog_6_method_8_code 49 = .ok (.laload, 1) := by decide +kernel
theorem d_Facts_changed_50 : decode prog_6_method_8_code 50 = .ok (.lstore_n 3, 1) := by decide +kernel
theorem d_Facts_changed_51 : decode prog_6_method_8_code 51 = .ok (.aload_n 1, 1) := by decide +kernel
theorem d_Facts_changed_52 : decode prog_6_method_8_code 52 = .ok (.getfield 67, 3) := by decide +kernel
theorem d_Facts_changed_55 : decode prog_6_method_8_code 55 = .ok (.bipush 6, 2) := by decide +kernel
theorem d_Facts_changed_57 : decode prog_6_method_8_code 57 = .ok (.if_icmp .ne 39, 3) := by decide +kernel
theorem d_Facts_changed_96 : decode prog_6_method_8_code 96 = .ok (.aload_n 1, 1) := by decide +kernel
theorem d_Facts_changed_97 : decode prog_6_method_8_code 97 = .ok (.getfield 70, 3) := by decide +kernel
theorem u_221 : Cond.fieldLink "FilterGuard$Facts" 70 "FilterGuard$Code" "slots" "[J" ∈ fg_g := fg_in (List.mem_of_getElem? (i := 221) (by decide +kernel)) rfl
theorem d_Facts_changed_100 : decode prog_6_method_8_code 100 = .ok (.iload_n 2, 1) := by decide +kernel
theorem d_Facts_changed_101 : decode prog_6_method_8_code 101 = .ok (.laload, 1) := by decide +kernel
theorem d_Facts_changed_102 : decode prog_6_method_8_code 102 = .ok (.lreturn, 1) := by decide +kernel
theorem d_Facts_changed_60 : decode prog_6_method_8_code 60 = .ok (.aload_n 0, 1) := by decide +kernel
theorem d_Facts_changed_61 : decode prog_6_method_8_code 61 = .ok (.getfield 22, 3) := by decide +kernel
theorem d_Facts_changed_64 : decode prog_6_method_8_code 64 = .ok (.iload_n 2, 1) := by decide +kernel
theorem d_Facts_changed_65 : decode prog_6_method_8_code 65 = .ok (.iaload, 1) := by decide +kernel
theorem d_Facts_changed_66 : decode prog_6_method_8_code 66 = .ok (.iconst 1, 1) := by decide +kernel
theorem d_Facts_changed_67 : decode prog_6_method_8_code 67 = .ok (.if_icmp .ne 29, 3) := by decide +kernel
theorem d_Facts_changed_70 : decode prog_6_method_8_code 70 = .ok (.lload_n 3, 1) := by decide +kernel
theorem d_Facts_changed_71 : decode prog_6_method_8_code 71 = .ok (.lload_n 3, 1) := by decide +kernel
theorem d_Facts_changed_72 : decode prog_6_method_8_code 72 = .ok (.l2i, 1) := by decide +kernel
theorem d_Facts_changed_73 : decode prog_6_method_8_code 73 = .ok (.i2l, 1) := by decide +kernel
theorem d_Facts_changed_74 : decode prog_6_method_8_code 74 = .ok (.lcmp, 1) := by decide +kernel
theorem d_Facts_changed_75 : decode prog_6_method_8_code 75 = .ok (.ifCond .ne 21, 3) := by decide +kernel
theorem d_Facts_changed_78 : decode prog_6_method_8_code 78 = .ok (.ldc2_w 94, 3) := by decide +kernel
theorem u_1462 : Cond.constantLong "FilterGuard$Facts" 94 183 ∈ fg_g := fg_in (List.mem_of_getElem? (i := 1462) (by decide +kernel)) rfl
theorem d_Facts_changed_81 : decode prog_6_method_8_code 81 = .ok (.aload_n 1, 1) := by decide +kernel
theorem d_Facts_changed_82 : decode prog_6_method_8_code 82 = .ok (.getfield 96, 3) := by decide +kernel
theorem u_236 : Cond.fieldLink "FilterGuard$Facts" 96 "FilterGuard$Code" "to" "I" ∈ fg_g := fg_in (List.mem_of_getElem? (i := 236) (by decide +kernel)) rfl
theorem d_Facts_changed_85 : decode prog_6_method_8_code 85 = .ok (.i2l, 1) := by decide +kernel
theorem d_Facts_changed_86 : decode prog_6_method_8_code 86 = .ok (.bipush 8, 2) := by decide +kernel
theorem d_Facts_changed_88 : decode prog_6_method_8_code 88 = .ok (.lshl, 1) := by decide +kernel
theorem d_Facts_changed_89 : decode prog_6_method_8_code 89 = .ok (.lor, 1) := by decide +kernel
theorem d_Facts_changed_90 : decode prog_6_method_8_code 90 = .ok (.lload_n 3, 1) := by decide +kernel
theorem d_Facts_changed_91 : decode prog_6_method_8_code 91 = .ok (.bipush 32, 2) := by decide +kernel
theorem d_Facts_changed_93 : decode prog_6_method_8_code 93 = .ok (.lshl, 1) := by decide +kernel
theorem d_Facts_changed_94 : decode prog_6_method_8_code 94 = .ok (.lor, 1) := by decide +kernel
theorem d_Facts_changed_95 : decode prog_6_method_8_code 95 = .ok (.lreturn, 1) := by decide +kernel
theorem d_Facts_changed_9 : decode prog_6_method_8_code 9 = .ok (.aload_n 0, 1) := by decide +kernel
theorem d_Facts_changed_10 : decode prog_6_method_8_code 10 = .ok (.getfield 15, 3) := by decide +kernel
theorem d_Facts_changed_13 : decode prog_6_method_8_code 13 = .ok (.iload_n 2, 1) := by decide +kernel
theorem d_Facts_changed_14 : decode prog_6_method_8_code 14 = .ok (.baload, 1) := by decide +kernel
theorem d_Facts_changed_15 : decode prog_6_method_8_code 15 = .ok (.ifCond .eq 29, 3) := by decide +kernel
theorem d_Facts_changed_18 : decode prog_6_method_8_code 18 = .ok (.aload_n 0, 1) := by decide +kernel
theorem d_Facts_changed_19 : decode prog_6_method_8_code 19 = .ok (.getfield 19, 3) := by decide +kernel
theorem d_Facts_changed_22 : decode prog_6_method_8_code 22 = .ok (.iload_n 2, 1) := by decide +kernel
theorem d_Facts_changed_23 : decode prog_6_method_8_code 23 = .ok (.baload, 1) := by decide +kernel
theorem d_Facts_changed_24 : decode prog_6_method_8_code 24 = .ok (.ifCond .ne 20, 3) := by decide +kernel
theorem d_Facts_changed_27 : decode prog_6_method_8_code 27 = .ok (.ldc2_w 87, 3) := by decide +kernel
theorem u_1460 : Cond.constantLong "FilterGuard$Facts" 87 5 ∈ fg_g := fg_in (List.mem_of_getElem? (i := 1460) (by decide +kernel)) rfl
theorem d_Facts_changed_30 : decode prog_6_method_8_code 30 = .ok (.aload_n 1, 1) := by decide +kernel
theorem d_Facts_changed_31 : decode prog_6_method_8_code 31 = .ok (.getfield 89, 3) := by decide +kernel
theorem u_243 : Cond.fieldLink "FilterGuard$Facts" 89 "FilterGuard$Code" "offset" "I" ∈ fg_g := fg_in (List.mem_of_getElem? (i := 243) (by decide +kernel)) rfl
theorem d_Facts_changed_34 : decode prog_6_method_8_code 34 = .ok (.i2l, 1) := by decide +kernel
theorem d_Facts_changed_35 : decode prog_6_method_8_code 35 = .ok (.ldc2_w 92, 3) := by decide +kernel
theorem u_1461 : Cond.constantLong "FilterGuard$Facts" 92 65535 ∈ fg_g := fg_in (List.mem_of_getElem? (i := 1461) (by decide +kernel)) rfl
theorem d_Facts_changed_38 : decode prog_6_method_8_code 38 = .ok (.land, 1) := by decide +kernel
theorem d_Facts_changed_39 : decode prog_6_method_8_code 39 = .ok (.bipush 16, 2) := by decide +kernel
theorem d_Facts_changed_41 : decode prog_6_method_8_code 41 = .ok (.lshl, 1) := by decide +kernel
theorem d_Facts_changed_42 : decode prog_6_method_8_code 42 = .ok (.lor, 1) := by decide +kernel
theorem d_Facts_changed_43 : decode prog_6_method_8_code 43 = .ok (.lreturn, 1) := by decide +kernel
def fx_Facts_clear_l2_b1 (n : Nat) : Nat → Nat → (Nat → Int32) → Nat → Int32
  | 0 => fun k l_b1 => (fun _ => 0)
  | fu + 1 => fun k l_b1 => (if n ≤ k then l_b1 else (fx_Facts_clear_l2_b1 n fu (k + 1) (upd l_b1 k 0)))
theorem fx_Facts_clear_l2_b1_s (n : Nat) (fu : Nat) (k : Nat) (l_b1 : Nat → Int32) : fx_Facts_clear_l2_b1 n (fu + 1) k l_b1 = (if n ≤ k then l_b1 else (fx_Facts_clear_l2_b1 n fu (k + 1) (upd l_b1 k 0))) := rfl
def fx_Facts_clear_b1 (e1 : Nat → Int32) (n : Nat) : Nat → Int32 := (fx_Facts_clear_l2_b1 n (n + 1) 0 e1)
def fx_Facts_clear_l2_b2 (n : Nat) : Nat → Nat → (Nat → Int32) → Nat → Int32
  | 0 => fun k l_b2 => (fun _ => 0)
  | fu + 1 => fun k l_b2 => (if n ≤ k then l_b2 else (fx_Facts_clear_l2_b2 n fu (k + 1) (upd l_b2 k (vp_nar .boolean 0))))
theorem fx_Facts_clear_l2_b2_s (n : Nat) (fu : Nat) (k : Nat) (l_b2 : Nat → Int32) : fx_Facts_clear_l2_b2 n (fu + 1) k l_b2 = (if n ≤ k then l_b2 else (fx_Facts_clear_l2_b2 n fu (k + 1) (upd l_b2 k (vp_nar .boolean 0)))) := rfl
def fx_Facts_clear_b2 (e2 : Nat → Int32) (n : Nat) : Nat → Int32 := (fx_Facts_clear_l2_b2 n (n + 1) 0 e2)
def fx_Facts_clear_l2_b3 (n : Nat) : Nat → Nat → (Nat → Int32) → Nat → Int32
  | 0 => fun k l_b3 => (fun _ => 0)
  | fu + 1 => fun k l_b3 => (if n ≤ k then l_b3 else (fx_Facts_clear_l2_b3 n fu (k + 1) (upd l_b3 k (vp_nar .boolean 0))))
theorem fx_Facts_clear_l2_b3_s (n : Nat) (fu : Nat) (k : Nat) (l_b3 : Nat → Int32) : fx_Facts_clear_l2_b3 n (fu + 1) k l_b3 = (if n ≤ k then l_b3 else (fx_Facts_clear_l2_b3 n fu (k + 1) (upd l_b3 k (vp_nar .boolean 0)))) := rfl
def fx_Facts_clear_b3 (e3 : Nat → Int32) (n : Nat) : Nat → Int32 := (fx_Facts_clear_l2_b3 n (n + 1) 0 e3)
def fx_Facts_clear_l2_b4 (n : Nat) : Nat → Nat → (Nat → Int32) → Nat → Int32
  | 0 => fun k l_b4 => (fun _ => 0)
  | fu + 1 => fun k l_b4 => (if n ≤ k then l_b4 else (fx_Facts_clear_l2_b4 n fu (k + 1) (upd l_b4 k 0)))
theorem fx_Facts_clear_l2_b4_s (n : Nat) (fu : Nat) (k : Nat) (l_b4 : Nat → Int32) : fx_Facts_clear_l2_b4 n (fu + 1) k l_b4 = (if n ≤ k then l_b4 else (fx_Facts_clear_l2_b4 n fu (k + 1) (upd l_b4 k 0))) := rfl
def fx_Facts_clear_b4 (e4 : Nat → Int32) (n : Nat) : Nat → Int32 := (fx_Facts_clear_l2_b4 n (n + 1) 0 e4)
def fx_Facts_clear_l2_b5 (n : Nat) : Nat → Nat → (Nat → Int64) → Nat → Int64
  | 0 => fun k l_b5 => (fun _ => 0)
  | fu + 1 => fun k l_b5 => (if n ≤ k then l_b5 else (fx_Facts_clear_l2_b5 n fu (k + 1) (vp_updL l_b5 k 0)))
theorem fx_Facts_clear_l2_b5_s (n : Nat) (fu : Nat) (k : Nat) (l_b5 : Nat → Int64) : fx_Facts_clear_l2_b5 n (fu + 1) k l_b5 = (if n ≤ k then l_b5 else (fx_Facts_clear_l2_b5 n fu (k + 1) (vp_updL l_b5 k 0))) := rfl
def fx_Facts_clear_b5 (e5 : Nat → Int64) (n : Nat) : Nat → Int64 := (fx_Facts_clear_l2_b5 n (n + 1) 0 e5)
def rm_Facts_clear : Room := { frames := 1, cells := 0, slots := 0, locals := 20 }
abbrev q_Facts_clear (D : va_G) (h0 : Nat) (b1 : Nat) (b2 : Nat) (b3 : Nat) (b4 : Nat) (b5 : Nat) (b6 : Nat) (b7 : Nat) (d1 : ClassId) (d2 : ClassId) (d3 : ClassId) (d4 : ClassId) (d5 : ClassId) (e1 : Nat → Int32) (e2 : Nat → Int32) (e3 : Nat → Int32) (e4 : Nat → Int32) (e5 : Nat → Int64) (n : Nat) (A : Nat → Prop) : Array Value → Jvm.State → Outcome → Jvm.State → Prop := va_Qv (fun (u : (Nat → Int32) × (Nat → Int32) × (Nat → Int32) × (Nat → Int32) × (Nat → Int64)) => u.1 = (fx_Facts_clear_b1 e1 n) ∧ u.2.1 = (fx_Facts_clear_b2 e2 n) ∧ u.2.2.1 = (fx_Facts_clear_b3 e3 n) ∧ u.2.2.2.1 = (fx_Facts_clear_b4 e4 n) ∧ u.2.2.2.2 = (fx_Facts_clear_b5 e5 n)) (fg_B D A (fun (u : (Nat → Int32) × (Nat → Int32) × (Nat → Int32) × (Nat → Int32) × (Nat → Int64)) => [(h0, .inr (3, [.ref b1, .ref b2, .ref b3, .ref b4, .ref b5, .ref b6, .ref b7])), (b1, .inl (d1, 2000, .inl u.1)), (b2, .inl (d2, 2000, .inl u.2.1)), (b3, .inl (d3, 2000, .inl u.2.2.1)), (b4, .inl (d4, 2000, .inl u.2.2.2.1)), (b5, .inl (d5, 2000, .inr (.inl u.2.2.2.2)))]) (fun (u : (Nat → Int32) × (Nat → Int32) × (Nat → Int32) × (Nat → Int32) × (Nat → Int64)) => [])) A
set_option maxHeartbeats 4000000 in
set_option maxRecDepth 100000 in
theorem c_Facts_clear (l : Launch) (D : va_G) (h0 : Nat) (b1 : Nat) (b2 : Nat) (b3 : Nat) (b4 : Nat) (b5 : Nat) (b6 : Nat) (b7 : Nat) (d1 : ClassId) (d2 : ClassId) (d3 : ClassId) (d4 : ClassId) (d5 : ClassId) (e1 : Nat → Int32) (e2 : Nat → Int32) (e3 : Nat → Int32) (e4 : Nat → Int32) (e5 : Nat → Int64) (n : Nat) (sz : Nat) (hn : n ≤ 2000) : Met l y_Facts_clear (fg_w y_Facts_clear prog_6_method_2_code 3 none) rm_Facts_clear (va_Pc [.ref h0, .int (nI n)] (fg_P D [(d1, .int), (d2, .boolean), (d3, .boolean), (d4, .int), (d5, .long)] [(h0, .inr (3, [.ref b1, .ref b2, .ref b3, .ref b4, .ref b5, .ref b6, .ref b7])), (b1, .inl (d1, 2000, .inl e1)), (b2, .inl (d2, 2000, .inl e2)), (b3, .inl (d3, 2000, .inl e3)), (b4, .inl (d4, 2000, .inl e4)), (b5, .inl (d5, 2000, .inr (.inl e5)))] sz)) (q_Facts_clear D h0 b1 b2 b3 b4 b5 b6 b7 d1 d2 d3 d4 d5 e1 e2 e3 e4 e5 n (va_A [(h0, .inr (3, [.ref b1, .ref b2, .ref b3, .ref b4, .ref b5, .ref b6, .ref b7])), (b1, .inl (d1, 2000, .inl e1)), (b2, .inl (d2, 2000, .inl e2)), (b3, .inl (d3, 2000, .inl e3)), (b4, .inl (d4, 2000, .inl e4)), (b5, .inl (d5, 2000, .inr (.inl e5)))] sz)) rm_Facts_clear.cells rm_Facts_clear.slots (va_A [(h0, .inr (3, [.ref b1, .ref b2, .ref b3, .ref b4, .ref b5, .ref b6, .ref b7])), (b1, .inl (d1, 2000, .inl e1)), (b2, .inl (d2, 2000, .inl e2)), (b3, .inl (d3, 2000, .inl e3)), (b4, .inl (d4, 2000, .inl e4)), (b5, .inl (d5, 2000, .inr (.inl e5)))] sz) := by
  refine fg_enter (fun A => q_Facts_clear D h0 b1 b2 b3 b4 b5 b6 b7 d1 d2 d3 d4 d5 e1 e2 e3 e4 e5 n A) (by decide +kernel) (Nat.le_of_ble_eq_true rfl) ?_
  intro p e s m below meth c ls A hx hb hml hown hts hr hlocks hin hP hK hD hS hA hX hl
  have hl : lv_has ls 3 [(0, .ref h0), (1, .int (nI n))] := hl
  refine lv_iconst (v := 0) hx hb d_Facts_clear_0 (by decide) ?_
  refine lv_istore_n (lv' := [(2, .int 0), (0, .ref h0), (1, .int (nI n))]) hx hb d_Facts_clear_1 rfl hl (by decide) rfl (fun ls hl => ?_)
  have loop2 : ∀ (nq : Nat) (k : Nat) (l_b1 : Nat → Int32) (l_b2 : Nat → Int32) (l_b3 : Nat → Int32) (l_b4 : Nat → Int32) (l_b5 : Nat → Int64) (H : Heap) (locs : List Loc) (ls : Array Slot), k ≤ n → (fx_Facts_clear_b1 e1 n) = fx_Facts_clear_l2_b1 n nq k l_b1 → (fx_Facts_clear_b2 e2 n) = fx_Facts_clear_l2_b2 n nq k l_b2 → (fx_Facts_clear_b3 e3 n) = fx_Facts_clear_l2_b3 n nq k l_b3 → (fx_Facts_clear_b4 e4 n) = fx_Facts_clear_l2_b4 n nq k l_b4 → (fx_Facts_clear_b5 e5 n) = fx_Facts_clear_l2_b5 n nq k l_b5 → n - k < nq → va_P D classes [(h0, .inr (3, [.ref b1, .ref b2, .ref b3, .ref b4, .ref b5, .ref b6, .ref b7])), (b1, .inl (d1, 2000, .inl l_b1)), (b2, .inl (d2, 2000, .inl l_b2)), (b3, .inl (d3, 2000, .inl l_b3)), (b4, .inl (d4, 2000, .inl l_b4)), (b5, .inl (d5, 2000, .inr (.inl l_b5)))] H → va_D A [(h0, .inr (3, [.ref b1, .ref b2, .ref b3, .ref b4, .ref b5, .ref b6, .ref b7])), (b1, .inl (d1, 2000, .inl l_b1)), (b2, .inl (d2, 2000, .inl l_b2)), (b3, .inl (d3, 2000, .inl l_b3)), (b4, .inl (d4, 2000, .inl l_b4)), (b5, .inl (d5, 2000, .inr (.inl l_b5)))] → va_S A s.heap H locs → lv_has ls 3 [(2, .int (nI k)), (0, .ref h0), (1, .int (nI n))] → W p l e rm_Facts_clear s m [.ref h0, .int (nI n)].toArray below meth c H locs (0) (0) (MQ below (q_Facts_clear D h0 b1 b2 b3 b4 b5 b6 b7 d1 d2 d3 d4 d5 e1 e2 e3 e4 e5 n A) [.ref h0, .int (nI n)].toArray s rm_Facts_clear.cells rm_Facts_clear.slots A) (F0 m 2 ls []) := by
    intro nq
    induction nq with
    | zero => intro k l_b1 l_b2 l_b3 l_b4 l_b5 H locs ls hk hsp0 hsp1 hsp2 hsp3 hsp4 hnq; exact absurd hnq (Nat.not_lt_zero _)
    | succ nq ih =>
      intro k l_b1 l_b2 l_b3 l_b4 l_b5 H locs ls hk hsp0 hsp1 hsp2 hsp3 hsp4 hnq hP hD hS hl
      refine lv_iload_n hx hb d_Facts_clear_2 rfl (lv_at hl 0 rfl) ?_
      refine lv_iload_n hx hb d_Facts_clear_3 rfl (lv_at hl 2 rfl) ?_
      refine lv_icmp_ge (tgt := 48) hx hb d_Facts_clear_4 (by decide) (fun c_1 => ?_) (fun c_1 => ?_)
      · have gc_1 : n ≤ k := (nI_leI (by omega) (by omega)).mp c_1
        exact fg_retv (l_b1, l_b2, l_b3, l_b4, l_b5) hx hb hr hlocks ⟨(by rw [hsp0, fx_Facts_clear_l2_b1_s]; (repeat rw [if_pos gc_1]); first | done | rfl | contradiction), (by rw [hsp1, fx_Facts_clear_l2_b2_s]; (repeat rw [if_pos gc_1]); first | done | rfl | contradiction), (by rw [hsp2, fx_Facts_clear_l2_b3_s]; (repeat rw [if_pos gc_1]); first | done | rfl | contradiction), (by rw [hsp3, fx_Facts_clear_l2_b4_s]; (repeat rw [if_pos gc_1]); first | done | rfl | contradiction), (by rw [hsp4, fx_Facts_clear_l2_b5_s]; (repeat rw [if_pos gc_1]); first | done | rfl | contradiction)⟩ (hP.sub (ws' := [(h0, .inr (3, [.ref b1, .ref b2, .ref b3, .ref b4, .ref b5, .ref b6, .ref b7])), (b1, .inl (d1, 2000, .inl l_b1)), (b2, .inl (d2, 2000, .inl l_b2)), (b3, .inl (d3, 2000, .inl l_b3)), (b4, .inl (d4, 2000, .inl l_b4)), (b5, .inl (d5, 2000, .inr (.inl l_b5)))]) [0, 1, 2, 3, 4, 5] rfl) (hK.sub (tys' := []) [] rfl) (hD.sub (ws' := [(h0, .inr (3, [.ref b1, .ref b2, .ref b3, .ref b4, .ref b5, .ref b6, .ref b7])), (b1, .inl (d1, 2000, .inl l_b1)), (b2, .inl (d2, 2000, .inl l_b2)), (b3, .inl (d3, 2000, .inl l_b3)), (b4, .inl (d4, 2000, .inl l_b4)), (b5, .inl (d5, 2000, .inr (.inl l_b5)))]) [0, 1, 2, 3, 4, 5] (by decide) rfl) hS (Nat.le_of_ble_eq_true rfl) (Nat.le_of_ble_eq_true rfl) d_Facts_clear_48
      · have gc_1 : ¬ n ≤ k := fun z9 => c_1 ((nI_leI (by omega) (by omega)).mpr z9)
        refine lv_aload_n hx hb d_Facts_clear_7 rfl (lv_at hl 1 rfl) ?_
        refine va_get (D := D) (ci := 3) (v := .ref b1) (C := "FilterGuard$Facts") (T := F_Facts) (N := 7) hx hb hts i_Facts hown hK hP 0 rfl rfl 0 (by decide) (hts _ u_318) (fun _ h9 => h9) rfl d_Facts_clear_8 ?_
        refine lv_iload_n hx hb d_Facts_clear_11 rfl (lv_at hl 0 rfl) ?_
        refine lv_iconst (v := 0) hx hb d_Facts_clear_12 (by decide) ?_
        have hi9 := (show k < 2000 by omega)
        refine va_iast hx hb hK hP hD hS 1 0 rfl rfl (nI_in (show k < 2000 by omega) (by decide)) d_Facts_clear_13 (fun H locs hP hD hS => ?_)
        have hP : va_P D classes [(h0, .inr (3, [.ref b1, .ref b2, .ref b3, .ref b4, .ref b5, .ref b6, .ref b7])), (b1, .inl (d1, 2000, .inl (upd l_b1 ((nI k).toNatClampNeg) 0))), (b2, .inl (d2, 2000, .inl l_b2)), (b3, .inl (d3, 2000, .inl l_b3)), (b4, .inl (d4, 2000, .inl l_b4)), (b5, .inl (d5, 2000, .inr (.inl l_b5)))] H := hP
        have hD : va_D A [(h0, .inr (3, [.ref b1, .ref b2, .ref b3, .ref b4, .ref b5, .ref b6, .ref b7])), (b1, .inl (d1, 2000, .inl (upd l_b1 ((nI k).toNatClampNeg) 0))), (b2, .inl (d2, 2000, .inl l_b2)), (b3, .inl (d3, 2000, .inl l_b3)), (b4, .inl (d4, 2000, .inl l_b4)), (b5, .inl (d5, 2000, .inr (.inl l_b5)))] := hD
        rw [nI_clamp (show k < 2 ^ 31 by omega)] at hP hD
        have hP : va_P D classes [(h0, .inr (3, [.ref b1, .ref b2, .ref b3, .ref b4, .ref b5, .ref b6, .ref b7])), (b1, .inl (d1, 2000, .inl (upd l_b1 k 0))), (b2, .inl (d2, 2000, .inl l_b2)), (b3, .inl (d3, 2000, .inl l_b3)), (b4, .inl (d4, 2000, .inl l_b4)), (b5, .inl (d5, 2000, .inr (.inl l_b5)))] H := hP
        have hD : va_D A [(h0, .inr (3, [.ref b1, .ref b2, .ref b3, .ref b4, .ref b5, .ref b6, .ref b7])), (b1, .inl (d1, 2000, .inl (upd l_b1 k 0))), (b2, .inl (d2, 2000, .inl l_b2)), (b3, .inl (d3, 2000, .inl l_b3)), (b4, .inl (d4, 2000, .inl l_b4)), (b5, .inl (d5, 2000, .inr (.inl l_b5)))] := hD
        refine lv_aload_n hx hb d_Facts_clear_14 rfl (lv_at hl 1 rfl) ?_
        refine va_get (D := D) (ci := 3) (v := .ref b2) (C := "FilterGuard$Facts") (T := F_Facts) (N := 7) hx hb hts i_Facts hown hK hP 0 rfl rfl 1 (by decide) (hts _ u_319) (fun _ h9 => h9) rfl d_Facts_clear_15 ?_
        refine lv_iload_n hx hb d_Facts_clear_18 rfl (lv_at hl 0 rfl) ?_
        refine lv_iconst (v := 0) hx hb d_Facts_clear_19 (by decide) ?_
        have hi9 := (show k < 2000 by omega)
        refine va_zast hx hb hK hP hD hS 2 1 rfl rfl (nI_in (show k < 2000 by omega) (by decide)) d_Facts_clear_20 (fun H locs hP hD hS => ?_)
        have hP : va_P D classes [(h0, .inr (3, [.ref b1, .ref b2, .ref b3, .ref b4, .ref b5, .ref b6, .ref b7])), (b1, .inl (d1, 2000, .inl (upd l_b1 k 0))), (b2, .inl (d2, 2000, .inl (upd l_b2 ((nI k).toNatClampNeg) (vp_nar .boolean 0)))), (b3, .inl (d3, 2000, .inl l_b3)), (b4, .inl (d4, 2000, .inl l_b4)), (b5, .inl (d5, 2000, .inr (.inl l_b5)))] H := hP
        have hD : va_D A [(h0, .inr (3, [.ref b1, .ref b2, .ref b3, .ref b4, .ref b5, .ref b6, .ref b7])), (b1, .inl (d1, 2000, .inl (upd l_b1 k 0))), (b2, .inl (d2, 2000, .inl (upd l_b2 ((nI k).toNatClampNeg) (vp_nar .boolean 0)))), (b3, .inl (d3, 2000, .inl l_b3)), (b4, .inl (d4, 2000, .inl l_b4)), (b5, .inl (d5, 2000, .inr (.inl l_b5)))] := hD
        rw [nI_clamp (show k < 2 ^ 31 by omega)] at hP hD
        have hP : va_P D classes [(h0, .inr (3, [.ref b1, .ref b2, .ref b3, .ref b4, .ref b5, .ref b6, .ref b7])), (b1, .inl (d1, 2000, .inl (upd l_b1 k 0))), (b2, .inl (d2, 2000, .inl (upd l_b2 k (vp_nar .boolean 0)))), (b3, .inl (d3, 2000, .inl l_b3)), (b4, .inl (d4, 2000, .inl l_b4)), (b5, .inl (d5, 2000, .inr (.inl l_b5)))] H := hP
        have hD : va_D A [(h0, .inr (3, [.ref b1, .ref b2, .ref b3, .ref b4, .ref b5, .ref b6, .ref b7])), (b1, .inl (d1, 2000, .inl (upd l_b1 k 0))), (b2, .inl (d2, 2000, .inl (upd l_b2 k (vp_nar .boolean 0)))), (b3, .inl (d3, 2000, .inl l_b3)), (b4, .inl (d4, 2000, .inl l_b4)), (b5, .inl (d5, 2000, .inr (.inl l_b5)))] := hD
        refine lv_aload_n hx hb d_Facts_clear_21 rfl (lv_at hl 1 rfl) ?_
        refine va_get (D := D) (ci := 3) (v := .ref b3) (C := "FilterGuard$Facts") (T := F_Facts) (N := 7) hx hb hts i_Facts hown hK hP 0 rfl rfl 2 (by decide) (hts _ u_320) (fun _ h9 => h9) rfl d_Facts_clear_22 ?_
        refine lv_iload_n hx hb d_Facts_clear_25 rfl (lv_at hl 0 rfl) ?_
        refine lv_iconst (v := 0) hx hb d_Facts_clear_26 (by decide) ?_
        have hi9 := (show k < 2000 by omega)
        refine va_zast hx hb hK hP hD hS 3 2 rfl rfl (nI_in (show k < 2000 by omega) (by decide)) d_Facts_clear_27 (fun H locs hP hD hS => ?_)
        have hP : va_P D classes [(h0, .inr (3, [.ref b1, .ref b2, .ref b3, .ref b4, .ref b5, .ref b6, .ref b7])), (b1, .inl (d1, 2000, .inl (upd l_b1 k 0))), (b2, .inl (d2, 2000, .inl (upd l_b2 k (vp_nar .boolean 0)))), (b3, .inl (d3, 2000, .inl (upd l_b3 ((nI k).toNatClampNeg) (vp_nar .boolean 0)))), (b4, .inl (d4, 2000, .inl l_b4)), (b5, .inl (d5, 2000, .inr (.inl l_b5)))] H := hP
        have hD : va_D A [(h0, .inr (3, [.ref b1, .ref b2, .ref b3, .ref b4, .ref b5, .ref b6, .ref b7])), (b1, .inl (d1, 2000, .inl (upd l_b1 k 0))), (b2, .inl (d2, 2000, .inl (upd l_b2 k (vp_nar .boolean 0)))), (b3, .inl (d3, 2000, .inl (upd l_b3 ((nI k).toNatClampNeg) (vp_nar .boolean 0)))), (b4, .inl (d4, 2000, .inl l_b4)), (b5, .inl (d5, 2000, .inr (.inl l_b5)))] := hD
        rw [nI_clamp (show k < 2 ^ 31 by omega)] at hP hD
        have hP : va_P D classes [(h0, .inr (3, [.ref b1, .ref b2, .ref b3, .ref b4, .ref b5, .ref b6, .ref b7])), (b1, .inl (d1, 2000, .inl (upd l_b1 k 0))), (b2, .inl (d2, 2000, .inl (upd l_b2 k (vp_nar .boolean 0)))), (b3, .inl (d3, 2000, .inl (upd l_b3 k (vp_nar .boolean 0)))), (b4, .inl (d4, 2000, .inl l_b4)), (b5, .inl (d5, 2000, .inr (.inl l_b5)))] H := hP
        have hD : va_D A [(h0, .inr (3, [.ref b1, .ref b2, .ref b3, .ref b4, .ref b5, .ref b6, .ref b7])), (b1, .inl (d1, 2000, .inl (upd l_b1 k 0))), (b2, .inl (d2, 2000, .inl (upd l_b2 k (vp_nar .boolean 0)))), (b3, .inl (d3, 2000, .inl (upd l_b3 k (vp_nar .boolean 0)))), (b4, .inl (d4, 2000, .inl l_b4)), (b5, .inl (d5, 2000, .inr (.inl l_b5)))] := hD
        refine lv_aload_n hx hb d_Facts_clear_28 rfl (lv_at hl 1 rfl) ?_
        refine va_get (D := D) (ci := 3) (v := .ref b4) (C := "FilterGuard$Facts") (T := F_Facts) (N := 7) hx hb hts i_Facts hown hK hP 0 rfl rfl 3 (by decide) (hts _ u_321) (fun _ h9 => h9) rfl d_Facts_clear_29 ?_
        refine lv_iload_n hx hb d_Facts_clear_32 rfl (lv_at hl 0 rfl) ?_
        refine lv_iconst (v := 0) hx hb d_Facts_clear_33 (by decide) ?_
        have hi9 := (show k < 2000 by omega)
        refine va_iast hx hb hK hP hD hS 4 3 rfl rfl (nI_in (show k < 2000 by omega) (by decide)) d_Facts_clear_34 (fun H locs hP hD hS => ?_)
        have hP : va_P D classes [(h0, .inr (3, [.ref b1, .ref b2, .ref b3, .ref b4, .ref b5, .ref b6, .ref b7])), (b1, .inl (d1, 2000, .inl (upd l_b1 k 0))), (b2, .inl (d2, 2000, .inl (upd l_b2 k (vp_nar .boolean 0)))), (b3, .inl (d3, 2000, .inl (upd l_b3 k (vp_nar .boolean 0)))), (b4, .inl (d4, 2000, .inl (upd l_b4 ((nI k).toNatClampNeg) 0))), (b5, .inl (d5, 2000, .inr (.inl l_b5)))] H := hP
        have hD : va_D A [(h0, .inr (3, [.ref b1, .ref b2, .ref b3, .ref b4, .ref b5, .ref b6, .ref b7])), (b1, .inl (d1, 2000, .inl (upd l_b1 k 0))), (b2, .inl (d2, 2000, .inl (upd l_b2 k (vp_nar .boolean 0)))), (b3, .inl (d3, 2000, .inl (upd l_b3 k (vp_nar .boolean 0)))), (b4, .inl (d4, 2000, .inl (upd l_b4 ((nI k).toNatClampNeg) 0))), (b5, .inl (d5, 2000, .inr (.inl l_b5)))] := hD
        rw [nI_clamp (show k < 2 ^ 31 by omega)] at hP hD
        have hP : va_P D classes [(h0, .inr (3, [.ref b1, .ref b2, .ref b3, .ref b4, .ref b5, .ref b6, .ref b7])), (b1, .inl (d1, 2000, .inl (upd l_b1 k 0))), (b2, .inl (d2, 2000, .inl (upd l_b2 k (vp_nar .boolean 0)))), (b3, .inl (d3, 2000, .inl (upd l_b3 k (vp_nar .boolean 0)))), (b4, .inl (d4, 2000, .inl (upd l_b4 k 0))), (b5, .inl (d5, 2000, .inr (.inl l_b5)))] H := hP
        have hD : va_D A [(h0, .inr (3, [.ref b1, .ref b2, .ref b3, .ref b4, .ref b5, .ref b6, .ref b7])), (b1, .inl (d1, 2000, .inl (upd l_b1 k 0))), (b2, .inl (d2, 2000, .inl (upd l_b2 k (vp_nar .boolean 0)))), (b3, .inl (d3, 2000, .inl (upd l_b3 k (vp_nar .boolean 0)))), (b4, .inl (d4, 2000, .inl (upd l_b4 k 0))), (b5, .inl (d5, 2000, .inr (.inl l_b5)))] := hD
        refine lv_aload_n hx hb d_Facts_clear_35 rfl (lv_at hl 1 rfl) ?_
        refine va_get (D := D) (ci := 3) (v := .ref b5) (C := "FilterGuard$Facts") (T := F_Facts) (N := 7) hx hb hts i_Facts hown hK hP 0 rfl rfl 4 (by decide) (hts _ u_322) (fun _ h9 => h9) rfl d_Facts_clear_36 ?_
        refine lv_iload_n hx hb d_Facts_clear_39 rfl (lv_at hl 0 rfl) ?_
        refine lv_lconst (v := 0) hx hb d_Facts_clear_40 (by decide) ?_
        have hi9 := (show k < 2000 by omega)
        refine va_last hx hb hK hP hD hS 5 4 rfl rfl (nI_in (show k < 2000 by omega) (by decide)) d_Facts_clear_41 (fun H locs hP hD hS => ?_)
        have hP : va_P D classes [(h0, .inr (3, [.ref b1, .ref b2, .ref b3, .ref b4, .ref b5, .ref b6, .ref b7])), (b1, .inl (d1, 2000, .inl (upd l_b1 k 0))), (b2, .inl (d2, 2000, .inl (upd l_b2 k (vp_nar .boolean 0)))), (b3, .inl (d3, 2000, .inl (upd l_b3 k (vp_nar .boolean 0)))), (b4, .inl (d4, 2000, .inl (upd l_b4 k 0))), (b5, .inl (d5, 2000, .inr (.inl (vp_updL l_b5 ((nI k).toNatClampNeg) 0))))] H := hP
        have hD : va_D A [(h0, .inr (3, [.ref b1, .ref b2, .ref b3, .ref b4, .ref b5, .ref b6, .ref b7])), (b1, .inl (d1, 2000, .inl (upd l_b1 k 0))), (b2, .inl (d2, 2000, .inl (upd l_b2 k (vp_nar .boolean 0)))), (b3, .inl (d3, 2000, .inl (upd l_b3 k (vp_nar .boolean 0)))), (b4, .inl (d4, 2000, .inl (upd l_b4 k 0))), (b5, .inl (d5, 2000, .inr (.inl (vp_updL l_b5 ((nI k).toNatClampNeg) 0))))] := hD
        rw [nI_clamp (show k < 2 ^ 31 by omega)] at hP hD
        have hP : va_P D classes [(h0, .inr (3, [.ref b1, .ref b2, .ref b3, .ref b4, .ref b5, .ref b6, .ref b7])), (b1, .inl (d1, 2000, .inl (upd l_b1 k 0))), (b2, .inl (d2, 2000, .inl (upd l_b2 k (vp_nar .boolean 0)))), (b3, .inl (d3, 2000, .inl (upd l_b3 k (vp_nar .boolean 0)))), (b4, .inl (d4, 2000, .inl (upd l_b4 k 0))), (b5, .inl (d5, 2000, .inr (.inl (vp_updL l_b5 k 0))))] H := hP
        have hD : va_D A [(h0, .inr (3, [.ref b1, .ref b2, .ref b3, .ref b4, .ref b5, .ref b6, .ref b7])), (b1, .inl (d1, 2000, .inl (upd l_b1 k 0))), (b2, .inl (d2, 2000, .inl (upd l_b2 k (vp_nar .boolean 0)))), (b3, .inl (d3, 2000, .inl (upd l_b3 k (vp_nar .boolean 0)))), (b4, .inl (d4, 2000, .inl (upd l_b4 k 0))), (b5, .inl (d5, 2000, .inr (.inl (vp_updL l_b5 k 0))))] := hD
        refine lv_iinc (v := nI (k + 1)) (lv' := [(2, .int (nI (k + 1))), (0, .ref h0), (1, .int (nI n))]) hx hb d_Facts_clear_42 hl (k := 0) rfl (nI_1 _) (by decide) rfl (fun ls hl => ?_)
        refine lv_goto (tgt := 2) hx hb d_Facts_clear_45 (by decide) ?_
        refine W.widen (k := 0) (n := 0) (by omega) (by omega) ?_
        exact ih (k + 1) (upd l_b1 k 0) (upd l_b2 k (vp_nar .boolean 0)) (upd l_b3 k (vp_nar .boolean 0)) (upd l_b4 k 0) (vp_updL l_b5 k 0) _ _ _ (by omega) (by rw [hsp0]; rw [fx_Facts_clear_l2_b1_s]; (repeat rw [if_neg gc_1]); first | done | rfl | contradiction) (by rw [hsp1]; rw [fx_Facts_clear_l2_b2_s]; (repeat rw [if_neg gc_1]); first | done | rfl | contradiction) (by rw [hsp2]; rw [fx_Facts_clear_l2_b3_s]; (repeat rw [if_neg gc_1]); first | done | rfl | contradiction) (by rw [hsp3]; rw [fx_Facts_clear_l2_b4_s]; (repeat rw [if_neg gc_1]); first | done | rfl | contradiction) (by rw [hsp4]; rw [fx_Facts_clear_l2_b5_s]; (repeat rw [if_neg gc_1]); first | done | rfl | contradiction) (by omega) (hP.sub (ws' := [(h0, .inr (3, [.ref b1, .ref b2, .ref b3, .ref b4, .ref b5, .ref b6, .ref b7])), (b1, .inl (d1, 2000, .inl (upd l_b1 k 0))), (b2, .inl (d2, 2000, .inl (upd l_b2 k (vp_nar .boolean 0)))), (b3, .inl (d3, 2000, .inl (upd l_b3 k (vp_nar .boolean 0)))), (b4, .inl (d4, 2000, .inl (upd l_b4 k 0))), (b5, .inl (d5, 2000, .inr (.inl (vp_updL l_b5 k 0))))]) [0, 1, 2, 3, 4, 5] rfl) (hD.sub (ws' := [(h0, .inr (3, [.ref b1, .ref b2, .ref b3, .ref b4, .ref b5, .ref b6, .ref b7])), (b1, .inl (d1, 2000, .inl (upd l_b1 k 0))), (b2, .inl (d2, 2000, .inl (upd l_b2 k (vp_nar .boolean 0)))), (b3, .inl (d3, 2000, .inl (upd l_b3 k (vp_nar .boolean 0)))), (b4, .inl (d4, 2000, .inl (upd l_b4 k 0))), (b5, .inl (d5, 2000, .inr (.inl (vp_updL l_b5 k 0))))]) [0, 1, 2, 3, 4, 5] (by decide) rfl) hS (lv_sub hl [0, 1, 2] rfl)
  refine W.widen (k := 0) (n := 0) (by omega) (by omega) ?_
  exact loop2 (n + 1) 0 e1 e2 e3 e4 e5 _ _ _ (by omega) (by unfold fx_Facts_clear_b1; first | done | rfl | contradiction) (by unfold fx_Facts_clear_b2; first | done | rfl | contradiction) (by unfold fx_Facts_clear_b3; first | done | rfl | contradiction) (by unfold fx_Facts_clear_b4; first | done | rfl | contradiction) (by unfold fx_Facts_clear_b5; first | done | rfl | contradiction) (by omega) (hP.sub (ws' := [(h0, .inr (3, [.ref b1, .ref b2, .ref b3, .ref b4, .ref b5, .ref b6, .ref b7])), (b1, .inl (d1, 2000, .inl e1)), (b2, .inl (d2, 2000, .inl e2)), (b3, .inl (d3, 2000, .inl e3)), (b4, .inl (d4, 2000, .inl e4)), (b5, .inl (d5, 2000, .inr (.inl e5)))]) [0, 1, 2, 3, 4, 5] rfl) (hD.sub (ws' := [(h0, .inr (3, [.ref b1, .ref b2, .ref b3, .ref b4, .ref b5, .ref b6, .ref b7])), (b1, .inl (d1, 2000, .inl e1)), (b2, .inl (d2, 2000, .inl e2)), (b3, .inl (d3, 2000, .inl e3)), (b4, .inl (d4, 2000, .inl e4)), (b5, .inl (d5, 2000, .inr (.inl e5)))]) [0, 1, 2, 3, 4, 5] (by decide) rfl) hS (lv_sub hl [0, 1, 2] rfl)
def fx_Facts_visit_b1 (e1 : Nat → Int32) (x1 : Int32) : Nat → Int32 := (upd e1 x1.toNatClampNeg ((e1 x1.toNatClampNeg) + 1))
def rm_Facts_visit : Room := { frames := 1, cells := 0, slots := 0, locals := 20 }
abbrev q_Facts_visit (D : va_G) (h0 : Nat) (b1 : Nat) (b2 : Nat) (b3 : Nat) (b4 : Nat) (b5 : Nat) (b6 : Nat) (b7 : Nat) (d1 : ClassId) (e1 : Nat → Int32) (x1 : Int32) (A : Nat → Prop) : Array Value → Jvm.State → Outcome → Jvm.State → Prop := va_Qv (fun (z_b1 : Nat → Int32) => z_b1 = (fx_Facts_visit_b1 e1 x1)) (fg_B D A (fun (z_b1 : Nat → Int32) => [(h0, .inr (3, [.ref b1, .ref b2, .ref b3, .ref b4, .ref b5, .ref b6, .ref b7])), (b1, .inl (d1, 2000, .inl z_b1))]) (fun (z_b1 : Nat → Int32) => [])) A
set_option maxHeartbeats 4000000 in
set_option maxRecDepth 100000 in
theorem c_Facts_visit (l : Launch) (D : va_G) (h0 : Nat) (b1 : Nat) (b2 : Nat) (b3 : Nat) (b4 : Nat) (b5 : Nat) (b6 : Nat) (b7 : Nat) (d1 : ClassId) (e1 : Nat → Int32) (x1 : Int32) (sz : Nat) (hx1 : vp_in x1 2000) : Met l y_Facts_visit (fg_w y_Facts_visit prog_6_method_3_code 2 none) rm_Facts_visit (va_Pc [.ref h0, .int x1] (fg_P D [(d1, .int)] [(h0, .inr (3, [.ref b1, .ref b2, .ref b3, .ref b4, .ref b5, .ref b6, .ref b7])), (b1, .inl (d1, 2000, .inl e1))] sz)) (q_Facts_visit D h0 b1 b2 b3 b4 b5 b6 b7 d1 e1 x1 (va_A [(h0, .inr (3, [.ref b1, .ref b2, .ref b3, .ref b4, .ref b5, .ref b6, .ref b7])), (b1, .inl (d1, 2000, .inl e1))] sz)) rm_Facts_visit.cells rm_Facts_visit.slots (va_A [(h0, .inr (3, [.ref b1, .ref b2, .ref b3, .ref b4, .ref b5, .ref b6, .ref b7])), (b1, .inl (d1, 2000, .inl e1))] sz) := by
  refine fg_enter (fun A => q_Facts_visit D h0 b1 b2 b3 b4 b5 b6 b7 d1 e1 x1 A) (by decide +kernel) (Nat.le_of_ble_eq_true rfl) ?_
  intro p e s m below meth c ls A hx hb hml hown hts hr hlocks hin hP hK hD hS hA hX hl
  have hl : lv_has ls 2 [(0, .ref h0), (1, .int x1)] := hl
  refine lv_aload_n hx hb d_Facts_visit_0 rfl (lv_at hl 0 rfl) ?_
  refine va_get (D := D) (ci := 3) (v := .ref b1) (C := "FilterGuard$Facts") (T := F_Facts) (N := 7) hx hb hts i_Facts hown hK hP 0 rfl rfl 0 (by decide) (hts _ u_318) (fun _ h9 => h9) rfl d_Facts_visit_1 ?_
  refine lv_iload_n hx hb d_Facts_visit_4 rfl (lv_at hl 1 rfl) ?_
  refine lv_dup2_11 hx hb d_Facts_visit_5 rfl rfl ?_
  refine va_iald hx hb hK hP 1 0 rfl rfl hx1 d_Facts_visit_6 ?_
  refine lv_iconst (v := 1) hx hb d_Facts_visit_7 (by decide) ?_
  refine lv_iadd hx hb d_Facts_visit_8 ?_
  refine va_iast hx hb hK hP hD hS 1 0 rfl rfl hx1 d_Facts_visit_9 (fun H locs hP hD hS => ?_)
  have hP : va_P D classes [(h0, .inr (3, [.ref b1, .ref b2, .ref b3, .ref b4, .ref b5, .ref b6, .ref b7])), (b1, .inl (d1, 2000, .inl (upd e1 x1.toNatClampNeg ((e1 x1.toNatClampNeg) + 1))))] H := hP
  have hD : va_D A [(h0, .inr (3, [.ref b1, .ref b2, .ref b3, .ref b4, .ref b5, .ref b6, .ref b7])), (b1, .inl (d1, 2000, .inl (upd e1 x1.toNatClampNeg ((e1 x1.toNatClampNeg) + 1))))] := hD
  exact fg_retv (upd e1 x1.toNatClampNeg ((e1 x1.toNatClampNeg) + 1)) hx hb hr hlocks (by unfold fx_Facts_visit_b1; first | done | rfl | contradiction) (hP.sub (ws' := [(h0, .inr (3, [.ref b1, .ref b2, .ref b3, .ref b4, .ref b5, .ref b6, .ref b7])), (b1, .inl (d1, 2000, .inl (upd e1 x1.toNatClampNeg ((e1 x1.toNatClampNeg) + 1))))]) [0, 1] rfl) (hK.sub (tys' := []) [] rfl) (hD.sub (ws' := [(h0, .inr (3, [.ref b1, .ref b2, .ref b3, .ref b4, .ref b5, .ref b6, .ref b7])), (b1, .inl (d1, 2000, .inl (upd e1 x1.toNatClampNeg ((e1 x1.toNatClampNeg) + 1))))]) [0, 1] (by decide) rfl) hS (Nat.le_of_ble_eq_true rfl) (Nat.le_of_ble_eq_true rfl) d_Facts_visit_10
def fx_Facts_part_b2 (e2 : Nat → Int32) (x1 : Int32) (x2 : Int32) : Nat → Int32 := (upd e2 x1.toNatClampNeg (vp_nar .boolean ((e2 x1.toNatClampNeg) ||| x2)))
def fx_Facts_part_b3 (e3 : Nat → Int32) (x1 : Int32) (x3 : Int32) : Nat → Int32 := (upd e3 x1.toNatClampNeg (vp_nar .boolean ((e3 x1.toNatClampNeg) ||| x3)))
def rm_Facts_part : Room := { frames := 1, cells := 0, slots := 0, locals := 20 }
abbrev q_Facts_part (D : va_G) (h0 : Nat) (b1 : Nat) (b2 : Nat) (b3 : Nat) (b4 : Nat) (b5 : Nat) (b6 : Nat) (b7 : Nat) (d2 : ClassId) (d3 : ClassId) (e2 : Nat → Int32) (e3 : Nat → Int32) (x1 : Int32) (x2 : Int32) (x3 : Int32) (A : Nat → Prop) : Array Value → Jvm.State → Outcome → Jvm.State → Prop := va_Qv (fun (u : (Nat → Int32) × (Nat → Int32)) => u.1 = (fx_Facts_part_b2 e2 x1 x2) ∧ u.2 = (fx_Facts_part_b3 e3 x1 x3)) (fg_B D A (fun (u : (Nat → Int32) × (Nat → Int32)) => [(h0, .inr (3, [.ref b1, .ref b2, .ref b3, .ref b4, .ref b5, .ref b6, .ref b7])), (b2, .inl (d2, 2000, .inl u.1)), (b3, .inl (d3, 2000, .inl u.2))]) (fun (u : (Nat → Int32) × (Nat → Int32)) => [])) A
set_option maxHeartbeats 4000000 in
set_option maxRecDepth 100000 in
theorem c_Facts_part (l : Launch) (D : va_G) (h0 : Nat) (b1 : Nat) (b2 : Nat) (b3 : Nat) (b4 : Nat) (b5 : Nat) (b6 : Nat) (b7 : Nat) (d2 : ClassId) (d3 : ClassId) (e2 : Nat → Int32) (e3 : Nat → Int32) (x1 : Int32) (x2 : Int32) (x3 : Int32) (sz : Nat) (hx1 : vp_in x1 2000) : Met l y_Facts_part (fg_w y_Facts_part prog_6_method_4_code 4 none) rm_Facts_part (va_Pc [.ref h0, .int x1, .int x2, .int x3] (fg_P D [(d2, .boolean), (d3, .boolean)] [(h0, .inr (3, [.ref b1, .ref b2, .ref b3, .ref b4, .ref b5, .ref b6, .ref b7])), (b2, .inl (d2, 2000, .inl e2)), (b3, .inl (d3, 2000, .inl e3))] sz)) (q_Facts_part D h0 b1 b2 b3 b4 b5 b6 b7 d2 d3 e2 e3 x1 x2 x3 (va_A [(h0, .inr (3, [.ref b1, .ref b2, .ref b3, .ref b4, .ref b5, .ref b6, .ref b7])), (b2, .inl (d2, 2000, .inl e2)), (b3, .inl (d3, 2000, .inl e3))] sz)) rm_Facts_part.cells rm_Facts_part.slots (va_A [(h0, .inr (3, [.ref b1, .ref b2, .ref b3, .ref b4, .ref b5, .ref b6, .ref b7])), (b2, .inl (d2, 2000, .inl e2)), (b3, .inl (d3, 2000, .inl e3))] sz) := by
  refine fg_enter (fun A => q_Facts_part D h0 b1 b2 b3 b4 b5 b6 b7 d2 d3 e2 e3 x1 x2 x3 A) (by decide +kernel) (Nat.le_of_ble_eq_true rfl) ?_
  intro p e s m below meth c ls A hx hb hml hown hts hr hlocks hin hP hK hD hS hA hX hl
  have hl : lv_has ls 4 [(0, .ref h0), (1, .int x1), (2, .int x2), (3, .int x3)] := hl
  refine lv_aload_n hx hb d_Facts_part_0 rfl (lv_at hl 0 rfl) ?_
  refine va_get (D := D) (ci := 3) (v := .ref b2) (C := "FilterGuard$Facts") (T := F_Facts) (N := 7) hx hb hts i_Facts hown hK hP 0 rfl rfl 1 (by decide) (hts _ u_319) (fun _ h9 => h9) rfl d_Facts_part_1 ?_
  refine lv_iload_n hx hb d_Facts_part_4 rfl (lv_at hl 1 rfl) ?_
  refine lv_dup2_11 hx hb d_Facts_part_5 rfl rfl ?_
  refine va_zald hx hb hK hP 1 0 rfl rfl hx1 d_Facts_part_6 ?_
  refine lv_iload_n hx hb d_Facts_part_7 rfl (lv_at hl 2 rfl) ?_
  refine lv_ior hx hb d_Facts_part_8 ?_
  refine va_zast hx hb hK hP hD hS 1 0 rfl rfl hx1 d_Facts_part_9 (fun H locs hP hD hS => ?_)
  have hP : va_P D classes [(h0, .inr (3, [.ref b1, .ref b2, .ref b3, .ref b4, .ref b5, .ref b6, .ref b7])), (b2, .inl (d2, 2000, .inl (upd e2 x1.toNatClampNeg (vp_nar .boolean ((e2 x1.toNatClampNeg) ||| x2))))), (b3, .inl (d3, 2000, .inl e3))] H := hP
  have hD : va_D A [(h0, .inr (3, [.ref b1, .ref b2, .ref b3, .ref b4, .ref b5, .ref b6, .ref b7])), (b2, .inl (d2, 2000, .inl (upd e2 x1.toNatClampNeg (vp_nar .boolean ((e2 x1.toNatClampNeg) ||| x2))))), (b3, .inl (d3, 2000, .inl e3))] := hD
  refine lv_aload_n hx hb d_Facts_part_10 rfl (lv_at hl 0 rfl) ?_
  refine va_get (D := D) (ci := 3) (v := .ref b3) (C := "FilterGuard$Facts") (T := F_Facts) (N := 7) hx hb hts i_Facts hown hK hP 0 rfl rfl 2 (by decide) (hts _ u_320) (fun _ h9 => h9) rfl d_Facts_part_11 ?_
  refine lv_iload_n hx hb d_Facts_part_14 rfl (lv_at hl 1 rfl) ?_
  refine lv_dup2_11 hx hb d_Facts_part_15 rfl rfl ?_
  refine va_zald hx hb hK hP 2 1 rfl rfl hx1 d_Facts_part_16 ?_
  refine lv_iload_n hx hb d_Facts_part_17 rfl (lv_at hl 3 rfl) ?_
  refine lv_ior hx hb d_Facts_part_18 ?_
  refine va_zast hx hb hK hP hD hS 2 1 rfl rfl hx1 d_Facts_part_19 (fun H locs hP hD hS => ?_)
  have hP : va_P D classes [(h0, .inr (3, [.ref b1, .ref b2, .ref b3, .ref b4, .ref b5, .ref b6, .ref b7])), (b2, .inl (d2, 2000, .inl (upd e2 x1.toNatClampNeg (vp_nar .boolean ((e2 x1.toNatClampNeg) ||| x2))))), (b3, .inl (d3, 2000, .inl (upd e3 x1.toNatClampNeg (vp_nar .boolean ((e3 x1.toNatClampNeg) ||| x3)))))] H := hP
  have hD : va_D A [(h0, .inr (3, [.ref b1, .ref b2, .ref b3, .ref b4, .ref b5, .ref b6, .ref b7])), (b2, .inl (d2, 2000, .inl (upd e2 x1.toNatClampNeg (vp_nar .boolean ((e2 x1.toNatClampNeg) ||| x2))))), (b3, .inl (d3, 2000, .inl (upd e3 x1.toNatClampNeg (vp_nar .boolean ((e3 x1.toNatClampNeg) ||| x3)))))] := hD
  exact fg_retv (upd e2 x1.toNatClampNeg (vp_nar .boolean ((e2 x1.toNatClampNeg) ||| x2)), upd e3 x1.toNatClampNeg (vp_nar .boolean ((e3 x1.toNatClampNeg) ||| x3))) hx hb hr hlocks ⟨(by unfold fx_Facts_part_b2; first | done | rfl | contradiction), (by unfold fx_Facts_part_b3; first | done | rfl | contradiction)⟩ (hP.sub (ws' := [(h0, .inr (3, [.ref b1, .ref b2, .ref b3, .ref b4, .ref b5, .ref b6, .ref b7])), (b2, .inl (d2, 2000, .inl (upd e2 x1.toNatClampNeg (vp_nar .boolean ((e2 x1.toNatClampNeg) ||| x2))))), (b3, .inl (d3, 2000, .inl (upd e3 x1.toNatClampNeg (vp_nar .boolean ((e3 x1.toNatClampNeg) ||| x3)))))]) [0, 1, 2] rfl) (hK.sub (tys' := []) [] rfl) (hD.sub (ws' := [(h0, .inr (3, [.ref b1, .ref b2, .ref b3, .ref b4, .ref b5, .ref b6, .ref b7])), (b2, .inl (d2, 2000, .inl (upd e2 x1.toNatClampNeg (vp_nar .boolean ((e2 x1.toNatClampNeg) ||| x2))))), (b3, .inl (d3, 2000, .inl (upd e3 x1.toNatClampNeg (vp_nar .boolean ((e3 x1.toNatClampNeg) ||| x3)))))]) [0, 1, 2] (by decide) rfl) hS (Nat.le_of_ble_eq_true rfl) (Nat.le_of_ble_eq_true rfl) d_Facts_part_20
def fx_Facts_reckon_j0 (k1 : Int32) (n2 : Int64) : Int32 := (if k1 = 1 then (if (if n2 = 0 then (1 : Int32) else 0) = 0 then 0 else 1) else 0)
def fx_Facts_reckon_b4 (e4 : Nat → Int32) (e5 : Nat → Int64) (x1 : Int32) (k1 : Int32) (n1 : Int64) (n2 : Int64) : Nat → Int32 := (if (e4 x1.toNatClampNeg) = 0 then (if (fx_Facts_reckon_j0 k1 n2) = 0 then (upd e4 x1.toNatClampNeg 2) else (upd e4 x1.toNatClampNeg 1)) else (if (fx_Facts_reckon_j0 k1 n2) = 0 then (upd e4 x1.toNatClampNeg 2) else (if n1 = (e5 x1.toNatClampNeg) then e4 else (upd e4 x1.toNatClampNeg 2))))
def fx_Facts_reckon_b5 (e4 : Nat → Int32) (e5 : Nat → Int64) (x1 : Int32) (k1 : Int32) (n1 : Int64) (n2 : Int64) : Nat → Int64 := (if (e4 x1.toNatClampNeg) = 0 then (if (fx_Facts_reckon_j0 k1 n2) = 0 then e5 else (vp_updL e5 x1.toNatClampNeg n1)) else e5)
def rm_Facts_reckon : Room := { frames := 2, cells := 0, slots := 0, locals := 60 }
abbrev q_Facts_reckon (D : va_G) (h0 : Nat) (b1 : Nat) (b2 : Nat) (b3 : Nat) (b4 : Nat) (b5 : Nat) (b6 : Nat) (b7 : Nat) (d4 : ClassId) (d5 : ClassId) (e4 : Nat → Int32) (e5 : Nat → Int64) (x1 : Int32) (h1 : Nat) (h2 : Nat) (k1 : Int32) (k2 : Int32) (k3 : Int32) (k4 : Int32) (k5 : Int32) (k6 : Int32) (n1 : Int64) (n2 : Int64) (n3 : Int64) (n4 : Int64) (n5 : Int64) (n6 : Int64) (A : Nat → Prop) : Array Value → Jvm.State → Outcome → Jvm.State → Prop := va_Qv (fun (u : (Nat → Int32) × (Nat → Int64)) => u.1 = (fx_Facts_reckon_b4 e4 e5 x1 k1 n1 n2) ∧ u.2 = (fx_Facts_reckon_b5 e4 e5 x1 k1 n1 n2)) (fg_B D A (fun (u : (Nat → Int32) × (Nat → Int64)) => [(h0, .inr (3, [.ref b1, .ref b2, .ref b3, .ref b4, .ref b5, .ref b6, .ref b7])), (b4, .inl (d4, 2000, .inl u.1)), (b5, .inl (d5, 2000, .inr (.inl u.2))), (h1, .inr (10, [.int k1, .int k2, .int k3, .int k4, .int k5, .int k6, .ref h2])), (h2, .inr (11, [.long n1, .long n2, .long n3, .long n4, .long n5, .long n6]))]) (fun (u : (Nat → Int32) × (Nat → Int64)) => [])) A
set_option maxHeartbeats 4000000 in
set_option maxRecDepth 100000 in
theorem c_Facts_reckon (l : Launch) (D : va_G) (h0 : Nat) (b1 : Nat) (b2 : Nat) (b3 : Nat) (b4 : Nat) (b5 : Nat) (b6 : Nat) (b7 : Nat) (d4 : ClassId) (d5 : ClassId) (e4 : Nat → Int32) (e5 : Nat → Int64) (x1 : Int32) (h1 : Nat) (h2 : Nat) (k1 : Int32) (k2 : Int32) (k3 : Int32) (k4 : Int32) (k5 : Int32) (k6 : Int32) (n1 : Int64) (n2 : Int64) (n3 : Int64) (n4 : Int64) (n5 : Int64) (n6 : Int64) (sz : Nat) (hx1 : vp_in x1 2000) : Met l y_Facts_reckon (fg_w y_Facts_reckon prog_6_method_5_code 4 none) rm_Facts_reckon (va_Pc [.ref h0, .int x1, .ref h1] (fg_P D [(d4, .int), (d5, .long)] [(h0, .inr (3, [.ref b1, .ref b2, .ref b3, .ref b4, .ref b5, .ref b6, .ref b7])), (b4, .inl (d4, 2000, .inl e4)), (b5, .inl (d5, 2000, .inr (.inl e5))), (h1, .inr (10, [.int k1, .int k2, .int k3, .int k4, .int k5, .int k6, .ref h2])), (h2, .inr (11, [.long n1, .long n2, .long n3, .long n4, .long n5, .long n6]))] sz)) (q_Facts_reckon D h0 b1 b2 b3 b4 b5 b6 b7 d4 d5 e4 e5 x1 h1 h2 k1 k2 k3 k4 k5 k6 n1 n2 n3 n4 n5 n6 (va_A [(h0, .inr (3, [.ref b1, .ref b2, .ref b3, .ref b4, .ref b5, .ref b6, .ref b7])), (b4, .inl (d4, 2000, .inl e4)), (b5, .inl (d5, 2000, .inr (.inl e5))), (h1, .inr (10, [.int k1, .int k2, .int k3, .int k4, .int k5, .int k6, .ref h2])), (h2, .inr (11, [.long n1, .long n2, .long n3, .long n4, .long n5, .long n6]))] sz)) rm_Facts_reckon.cells rm_Facts_reckon.slots (va_A [(h0, .inr (3, [.ref b1, .ref b2, .ref b3, .ref b4, .ref b5, .ref b6, .ref b7])), (b4, .inl (d4, 2000, .inl e4)), (b5, .inl (d5, 2000, .inr (.inl e5))), (h1, .inr (10, [.int k1, .int k2, .int k3, .int k4, .int k5, .int k6, .ref h2])), (h2, .inr (11, [.long n1, .long n2, .long n3, .long n4, .long n5, .long n6]))] sz) := by
  refine fg_enter (fun A => q_Facts_reckon D h0 b1 b2 b3 b4 b5 b6 b7 d4 d5 e4 e5 x1 h1 h2 k1 k2 k3 k4 k5 k6 n1 n2 n3 n4 n5 n6 A) (by decide +kernel) (Nat.le_of_ble_eq_true rfl) ?_
  intro p e s m below meth c ls A hx hb hml hown hts hr hlocks hin hP hK hD hS hA hX hl
  have hl : lv_has ls 4 [(0, .ref h0), (1, .int x1), (2, .ref h1)] := hl
  have j0_0 : ∀ (v0_0 : Int32) (H : Heap) (locs : List Loc) (ls : Array Slot), v0_0 = (fx_Facts_reckon_j0 k1 n2) → (v0_0 = 1 ∨ v0_0 = 0) → va_P D classes [(h0, .inr (3, [.ref b1, .ref b2, .ref b3, .ref b4, .ref b5, .ref b6, .ref b7])), (b4, .inl (d4, 2000, .inl e4)), (b5, .inl (d5, 2000, .inr (.inl e5))), (h1, .inr (10, [.int k1, .int k2, .int k3, .int k4, .int k5, .int k6, .ref h2])), (h2, .inr (11, [.long n1, .long n2, .long n3, .long n4, .long n5, .long n6]))] H → va_D A [(h0, .inr (3, [.ref b1, .ref b2, .ref b3, .ref b4, .ref b5, .ref b6, .ref b7])), (b4, .inl (d4, 2000, .inl e4)), (b5, .inl (d5, 2000, .inr (.inl e5))), (h1, .inr (10, [.int k1, .int k2, .int k3, .int k4, .int k5, .int k6, .ref h2])), (h2, .inr (11, [.long n1, .long n2, .long n3, .long n4, .long n5, .long n6]))] → va_S A s.heap H locs → lv_has ls 4 [(0, .ref h0), (1, .int x1), (2, .ref h1)] → W p l e rm_Facts_reckon s m [.ref h0, .int x1, .ref h1].toArray below meth c H locs (0) (0) (MQ below (q_Facts_reckon D h0 b1 b2 b3 b4 b5 b6 b7 d4 d5 e4 e5 x1 h1 h2 k1 k2 k3 k4 k5 k6 n1 n2 n3 n4 n5 n6 A) [.ref h0, .int x1, .ref h1].toArray s rm_Facts_reckon.cells rm_Facts_reckon.slots A) (F0 m 23 ls (.int v0_0 :: [])) := by
    intro v0_0 H locs ls hv0_0 zv0_0 hP hD hS hl
    subst hv0_0
    refine lv_istore_n (lv' := [(3, .int (fx_Facts_reckon_j0 k1 n2)), (0, .ref h0), (1, .int x1), (2, .ref h1)]) hx hb d_Facts_reckon_23 rfl hl (by decide) rfl (fun ls hl => ?_)
    refine lv_aload_n hx hb d_Facts_reckon_24 rfl (lv_at hl 1 rfl) ?_
    refine va_get (D := D) (ci := 3) (v := .ref b4) (C := "FilterGuard$Facts") (T := F_Facts) (N := 7) hx hb hts i_Facts hown hK hP 0 rfl rfl 3 (by decide) (hts _ u_321) (fun _ h9 => h9) rfl d_Facts_reckon_25 ?_
    refine lv_iload_n hx hb d_Facts_reckon_28 rfl (lv_at hl 2 rfl) ?_
    refine va_iald hx hb hK hP 1 0 rfl rfl hx1 d_Facts_reckon_29 ?_
    refine lv_if_ne (tgt := 60) hx hb d_Facts_reckon_30 (by decide) (fun c_2 => ?_) (fun c_2 => ?_)
    · refine lv_iload_n hx hb d_Facts_reckon_60 rfl (lv_at hl 0 rfl) ?_
      refine lv_if_eq (tgt := 81) hx hb d_Facts_reckon_61 (by decide) (fun c_3 => ?_) (fun c_3 => ?_)
      · refine lv_aload_n hx hb d_Facts_reckon_81 rfl (lv_at hl 1 rfl) ?_
        refine va_get (D := D) (ci := 3) (v := .ref b4) (C := "FilterGuard$Facts") (T := F_Facts) (N := 7) hx hb hts i_Facts hown hK hP 0 rfl rfl 3 (by decide) (hts _ u_321) (fun _ h9 => h9) rfl d_Facts_reckon_82 ?_
        refine lv_iload_n hx hb d_Facts_reckon_85 rfl (lv_at hl 2 rfl) ?_
        refine lv_iconst (v := 2) hx hb d_Facts_reckon_86 (by decide) ?_
        refine va_iast hx hb hK hP hD hS 1 0 rfl rfl hx1 d_Facts_reckon_87 (fun H locs hP hD hS => ?_)
        have hP : va_P D classes [(h0, .inr (3, [.ref b1, .ref b2, .ref b3, .ref b4, .ref b5, .ref b6, .ref b7])), (b4, .inl (d4, 2000, .inl (upd e4 x1.toNatClampNeg 2))), (b5, .inl (d5, 2000, .inr (.inl e5))), (h1, .inr (10, [.int k1, .int k2, .int k3, .int k4, .int k5, .int k6, .ref h2])), (h2, .inr (11, [.long n1, .long n2, .long n3, .long n4, .long n5, .long n6]))] H := hP
        have hD : va_D A [(h0, .inr (3, [.ref b1, .ref b2, .ref b3, .ref b4, .ref b5, .ref b6, .ref b7])), (b4, .inl (d4, 2000, .inl (upd e4 x1.toNatClampNeg 2))), (b5, .inl (d5, 2000, .inr (.inl e5))), (h1, .inr (10, [.int k1, .int k2, .int k3, .int k4, .int k5, .int k6, .ref h2])), (h2, .inr (11, [.long n1, .long n2, .long n3, .long n4, .long n5, .long n6]))] := hD
        exact fg_retv (upd e4 x1.toNatClampNeg 2, e5) hx hb hr hlocks ⟨(by unfold fx_Facts_reckon_b4; (repeat rw [if_neg c_2]); (repeat rw [if_pos c_3]); first | done | rfl | contradiction), (by unfold fx_Facts_reckon_b5; (repeat rw [if_neg c_2]); (repeat rw [if_pos c_3]); first | done | rfl | contradiction)⟩ (hP.sub (ws' := [(h0, .inr (3, [.ref b1, .ref b2, .ref b3, .ref b4, .ref b5, .ref b6, .ref b7])), (b4, .inl (d4, 2000, .inl (upd e4 x1.toNatClampNeg 2))), (b5, .inl (d5, 2000, .inr (.inl e5))), (h1, .inr (10, [.int k1, .int k2, .int k3, .int k4, .int k5, .int k6, .ref h2])), (h2, .inr (11, [.long n1, .long n2, .long n3, .long n4, .long n5, .long n6]))]) [0, 1, 2, 3, 4] rfl) (hK.sub (tys' := []) [] rfl) (hD.sub (ws' := [(h0, .inr (3, [.ref b1, .ref b2, .ref b3, .ref b4, .ref b5, .ref b6, .ref b7])), (b4, .inl (d4, 2000, .inl (upd e4 x1.toNatClampNeg 2))), (b5, .inl (d5, 2000, .inr (.inl e5))), (h1, .inr (10, [.int k1, .int k2, .int k3, .int k4, .int k5, .int k6, .ref h2])), (h2, .inr (11, [.long n1, .long n2, .long n3, .long n4, .long n5, .long n6]))]) [0, 1, 2, 3, 4] (by decide) rfl) hS (Nat.le_of_ble_eq_true rfl) (Nat.le_of_ble_eq_true rfl) d_Facts_reckon_88
      · refine lv_aload_n hx hb d_Facts_reckon_64 rfl (lv_at hl 3 rfl) ?_
        refine va_get (D := D) (ci := 10) (v := .ref h2) (C := "FilterGuard$Cell") (T := F_Cell) (N := 7) hx hb hts i_Cell hown hK hP 3 rfl rfl 6 (by decide) (hts _ u_436) (fun _ h9 => h9) rfl d_Facts_reckon_65 ?_
        refine va_get (D := D) (ci := 11) (v := .long n1) (C := "FilterGuard$Num") (T := F_Num) (N := 6) hx hb hts i_Num hown hK hP 4 rfl rfl 0 (by decide) (hts _ u_369) (fun _ h9 => h9) rfl d_Facts_reckon_68 ?_
        refine lv_aload_n hx hb d_Facts_reckon_71 rfl (lv_at hl 1 rfl) ?_
        refine va_get (D := D) (ci := 3) (v := .ref b5) (C := "FilterGuard$Facts") (T := F_Facts) (N := 7) hx hb hts i_Facts hown hK hP 0 rfl rfl 4 (by decide) (hts _ u_322) (fun _ h9 => h9) rfl d_Facts_reckon_72 ?_
        refine lv_iload_n hx hb d_Facts_reckon_75 rfl (lv_at hl 2 rfl) ?_
        refine va_lald hx hb hK hP 2 1 rfl rfl hx1 d_Facts_reckon_76 ?_
        refine W.lcmp hx hb d_Facts_reckon_77 ?_
        refine lv_if_eq (tgt := 88) hx hb d_Facts_reckon_78 (by decide) (fun c_4 => ?_) (fun c_4 => ?_)
        · have gc_4 : n1 = (e5 x1.toNatClampNeg) := (lg_cmp_eq _ _).mp c_4
          exact fg_retv (e4, e5) hx hb hr hlocks ⟨(by unfold fx_Facts_reckon_b4; (repeat rw [if_neg c_2]); (repeat rw [if_neg c_3]); (repeat rw [if_pos gc_4]); first | done | rfl | contradiction), (by unfold fx_Facts_reckon_b5; (repeat rw [if_neg c_2]); (repeat rw [if_neg c_3]); (repeat rw [if_pos gc_4]); first | done | rfl | contradiction)⟩ (hP.sub (ws' := [(h0, .inr (3, [.ref b1, .ref b2, .ref b3, .ref b4, .ref b5, .ref b6, .ref b7])), (b4, .inl (d4, 2000, .inl e4)), (b5, .inl (d5, 2000, .inr (.inl e5))), (h1, .inr (10, [.int k1, .int k2, .int k3, .int k4, .int k5, .int k6, .ref h2])), (h2, .inr (11, [.long n1, .long n2, .long n3, .long n4, .long n5, .long n6]))]) [0, 1, 2, 3, 4] rfl) (hK.sub (tys' := []) [] rfl) (hD.sub (ws' := [(h0, .inr (3, [.ref b1, .ref b2, .ref b3, .ref b4, .ref b5, .ref b6, .ref b7])), (b4, .inl (d4, 2000, .inl e4)), (b5, .inl (d5, 2000, .inr (.inl e5))), (h1, .inr (10, [.int k1, .int k2, .int k3, .int k4, .int k5, .int k6, .ref h2])), (h2, .inr (11, [.long n1, .long n2, .long n3, .long n4, .long n5, .long n6]))]) [0, 1, 2, 3, 4] (by decide) rfl) hS (Nat.le_of_ble_eq_true rfl) (Nat.le_of_ble_eq_true rfl) d_Facts_reckon_88
        · have gc_4 : ¬ n1 = (e5 x1.toNatClampNeg) := fun z => c_4 ((lg_cmp_eq _ _).mpr z)
          refine lv_aload_n hx hb d_Facts_reckon_81 rfl (lv_at hl 1 rfl) ?_
          refine va_get (D := D) (ci := 3) (v := .ref b4) (C := "FilterGuard$Facts") (T := F_Facts) (N := 7) hx hb hts i_Facts hown hK hP 0 rfl rfl 3 (by decide) (hts _ u_321) (fun _ h9 => h9) rfl d_Facts_reckon_82 ?_
          refine lv_iload_n hx hb d_Facts_reckon_85 rfl (lv_at hl 2 rfl) ?_
          refine lv_iconst (v := 2) hx hb d_Facts_reckon_86 (by decide) ?_
          refine va_iast hx hb hK hP hD hS 1 0 rfl rfl hx1 d_Facts_reckon_87 (fun H locs hP hD hS => ?_)
          have hP : va_P D classes [(h0, .inr (3, [.ref b1, .ref b2, .ref b3, .ref b4, .ref b5, .ref b6, .ref b7])), (b4, .inl (d4, 2000, .inl (upd e4 x1.toNatClampNeg 2))), (b5, .inl (d5, 2000, .inr (.inl e5))), (h1, .inr (10, [.int k1, .int k2, .int k3, .int k4, .int k5, .int k6, .ref h2])), (h2, .inr (11, [.long n1, .long n2, .long n3, .long n4, .long n5, .long n6]))] H := hP
          have hD : va_D A [(h0, .inr (3, [.ref b1, .ref b2, .ref b3, .ref b4, .ref b5, .ref b6, .ref b7])), (b4, .inl (d4, 2000, .inl (upd e4 x1.toNatClampNeg 2))), (b5, .inl (d5, 2000, .inr (.inl e5))), (h1, .inr (10, [.int k1, .int k2, .int k3, .int k4, .int k5, .int k6, .ref h2])), (h2, .inr (11, [.long n1, .long n2, .long n3, .long n4, .long n5, .long n6]))] := hD
          exact fg_retv (upd e4 x1.toNatClampNeg 2, e5) hx hb hr hlocks ⟨(by unfold fx_Facts_reckon_b4; (repeat rw [if_neg c_2]); (repeat rw [if_neg c_3]); (repeat rw [if_neg gc_4]); first | done | rfl | contradiction), (by unfold fx_Facts_reckon_b5; (repeat rw [if_neg c_2]); (repeat rw [if_neg c_3]); (repeat rw [if_neg gc_4]); first | done | rfl | contradiction)⟩ (hP.sub (ws' := [(h0, .inr (3, [.ref b1, .ref b2, .ref b3, .ref b4, .ref b5, .ref b6, .ref b7])), (b4, .inl (d4, 2000, .inl (upd e4 x1.toNatClampNeg 2))), (b5, .inl (d5, 2000, .inr (.inl e5))), (h1, .inr (10, [.int k1, .int k2, .int k3, .int k4, .int k5, .int k6, .ref h2])), (h2, .inr (11, [.long n1, .long n2, .long n3, .long n4, .long n5, .long n6]))]) [0, 1, 2, 3, 4] rfl) (hK.sub (tys' := []) [] rfl) (hD.sub (ws' := [(h0, .inr (3, [.ref b1, .ref b2, .ref b3, .ref b4, .ref b5, .ref b6, .ref b7])), (b4, .inl (d4, 2000, .inl (upd e4 x1.toNatClampNeg 2))), (b5, .inl (d5, 2000, .inr (.inl e5))), (h1, .inr (10, [.int k1, .int k2, .int k3, .int k4, .int k5, .int k6, .ref h2])), (h2, .inr (11, [.long n1, .long n2, .long n3, .long n4, .long n5, .long n6]))]) [0, 1, 2, 3, 4] (by decide) rfl) hS (Nat.le_of_ble_eq_true rfl) (Nat.le_of_ble_eq_true rfl) d_Facts_reckon_88
    · refine lv_iload_n hx hb d_Facts_reckon_33 rfl (lv_at hl 0 rfl) ?_
      refine lv_if_eq (tgt := 60) hx hb d_Facts_reckon_34 (by decide) (fun c_5 => ?_) (fun c_5 => ?_)
      · refine lv_iload_n hx hb d_Facts_reckon_60 rfl (lv_at hl 0 rfl) ?_
        refine lv_if_eq (tgt := 81) hx hb d_Facts_reckon_61 (by decide) (fun c_6 => ?_) (fun c_6 => absurd c_5 c_6)
        refine lv_aload_n hx hb d_Facts_reckon_81 rfl (lv_at hl 1 rfl) ?_
        refine va_get (D := D) (ci := 3) (v := .ref b4) (C := "FilterGuard$Facts") (T := F_Facts) (N := 7) hx hb hts i_Facts hown hK hP 0 rfl rfl 3 (by decide) (hts _ u_321) (fun _ h9 => h9) rfl d_Facts_reckon_82 ?_
        refine lv_iload_n hx hb d_Facts_reckon_85 rfl (lv_at hl 2 rfl) ?_
        refine lv_iconst (v := 2) hx hb d_Facts_reckon_86 (by decide) ?_
        refine va_iast hx hb hK hP hD hS 1 0 rfl rfl hx1 d_Facts_reckon_87 (fun H locs hP hD hS => ?_)
        have hP : va_P D classes [(h0, .inr (3, [.ref b1, .ref b2, .ref b3, .ref b4, .ref b5, .ref b6, .ref b7])), (b4, .inl (d4, 2000, .inl (upd e4 x1.toNatClampNeg 2))), (b5, .inl (d5, 2000, .inr (.inl e5))), (h1, .inr (10, [.int k1, .int k2, .int k3, .int k4, .int k5, .int k6, .ref h2])), (h2, .inr (11, [.long n1, .long n2, .long n3, .long n4, .long n5, .long n6]))] H := hP
        have hD : va_D A [(h0, .inr (3, [.ref b1, .ref b2, .ref b3, .ref b4, .ref b5, .ref b6, .ref b7])), (b4, .inl (d4, 2000, .inl (upd e4 x1.toNatClampNeg 2))), (b5, .inl (d5, 2000, .inr (.inl e5))), (h1, .inr (10, [.int k1, .int k2, .int k3, .int k4, .int k5, .int k6, .ref h2])), (h2, .inr (11, [.long n1, .long n2, .long n3, .long n4, .long n5, .long n6]))] := hD
        exact fg_retv (upd e4 x1.toNatClampNeg 2, e5) hx hb hr hlocks ⟨(by unfold fx_Facts_reckon_b4; (repeat rw [if_pos c_2]); (repeat rw [if_pos c_5]); first | done | rfl | contradiction), (by unfold fx_Facts_reckon_b5; (repeat rw [if_pos c_2]); (repeat rw [if_pos c_5]); first | done | rfl | contradiction)⟩ (hP.sub (ws' := [(h0, .inr (3, [.ref b1, .ref b2, .ref b3, .ref b4, .ref b5, .ref b6, .ref b7])), (b4, .inl (d4, 2000, .inl (upd e4 x1.toNatClampNeg 2))), (b5, .inl (d5, 2000, .inr (.inl e5))), (h1, .inr (10, [.int k1, .int k2, .int k3, .int k4, .int k5, .int k6, .ref h2])), (h2, .inr (11, [.long n1, .long n2, .long n3, .long n4, .long n5, .long n6]))]) [0, 1, 2, 3, 4] rfl) (hK.sub (tys' := []) [] rfl) (hD.sub (ws' := [(h0, .inr (3, [.ref b1, .ref b2, .ref b3, .ref b4, .ref b5, .ref b6, .ref b7])), (b4, .inl (d4, 2000, .inl (upd e4 x1.toNatClampNeg 2))), (b5, .inl (d5, 2000, .inr (.inl e5))), (h1, .inr (10, [.int k1, .int k2, .int k3, .int k4, .int k5, .int k6, .ref h2])), (h2, .inr (11, [.long n1, .long n2, .long n3, .long n4, .long n5, .long n6]))]) [0, 1, 2, 3, 4] (by decide) rfl) hS (Nat.le_of_ble_eq_true rfl) (Nat.le_of_ble_eq_true rfl) d_Facts_reckon_88
      · refine lv_aload_n hx hb d_Facts_reckon_37 rfl (lv_at hl 1 rfl) ?_
        refine va_get (D := D) (ci := 3) (v := .ref b4) (C := "FilterGuard$Facts") (T := F_Facts) (N := 7) hx hb hts i_Facts hown hK hP 0 rfl rfl 3 (by decide) (hts _ u_321) (fun _ h9 => h9) rfl d_Facts_reckon_38 ?_
        refine lv_iload_n hx hb d_Facts_reckon_41 rfl (lv_at hl 2 rfl) ?_
        refine lv_iconst (v := 1) hx hb d_Facts_reckon_42 (by decide) ?_
        refine va_iast hx hb hK hP hD hS 1 0 rfl rfl hx1 d_Facts_reckon_43 (fun H locs hP hD hS => ?_)
        have hP : va_P D classes [(h0, .inr (3, [.ref b1, .ref b2, .ref b3, .ref b4, .ref b5, .ref b6, .ref b7])), (b4, .inl (d4, 2000, .inl (upd e4 x1.toNatClampNeg 1))), (b5, .inl (d5, 2000, .inr (.inl e5))), (h1, .inr (10, [.int k1, .int k2, .int k3, .int k4, .int k5, .int k6, .ref h2])), (h2, .inr (11, [.long n1, .long n2, .long n3, .long n4, .long n5, .long n6]))] H := hP
        have hD : va_D A [(h0, .inr (3, [.ref b1, .ref b2, .ref b3, .ref b4, .ref b5, .ref b6, .ref b7])), (b4, .inl (d4, 2000, .inl (upd e4 x1.toNatClampNeg 1))), (b5, .inl (d5, 2000, .inr (.inl e5))), (h1, .inr (10, [.int k1, .int k2, .int k3, .int k4, .int k5, .int k6, .ref h2])), (h2, .inr (11, [.long n1, .long n2, .long n3, .long n4, .long n5, .long n6]))] := hD
        refine lv_aload_n hx hb d_Facts_reckon_44 rfl (lv_at hl 1 rfl) ?_
        refine va_get (D := D) (ci := 3) (v := .ref b5) (C := "FilterGuard$Facts") (T := F_Facts) (N := 7) hx hb hts i_Facts hown hK hP 0 rfl rfl 4 (by decide) (hts _ u_322) (fun _ h9 => h9) rfl d_Facts_reckon_45 ?_
        refine lv_iload_n hx hb d_Facts_reckon_48 rfl (lv_at hl 2 rfl) ?_
        refine lv_aload_n hx hb d_Facts_reckon_49 rfl (lv_at hl 3 rfl) ?_
        refine va_get (D := D) (ci := 10) (v := .ref h2) (C := "FilterGuard$Cell") (T := F_Cell) (N := 7) hx hb hts i_Cell hown hK hP 3 rfl rfl 6 (by decide) (hts _ u_436) (fun _ h9 => h9) rfl d_Facts_reckon_50 ?_
        refine va_get (D := D) (ci := 11) (v := .long n1) (C := "FilterGuard$Num") (T := F_Num) (N := 6) hx hb hts i_Num hown hK hP 4 rfl rfl 0 (by decide) (hts _ u_369) (fun _ h9 => h9) rfl d_Facts_reckon_53 ?_
        refine va_last hx hb hK hP hD hS 2 1 rfl rfl hx1 d_Facts_reckon_56 (fun H locs hP hD hS => ?_)
        have hP : va_P D classes [(h0, .inr (3, [.ref b1, .ref b2, .ref b3, .ref b4, .ref b5, .ref b6, .ref b7])), (b4, .inl (d4, 2000, .inl (upd e4 x1.toNatClampNeg 1))), (b5, .inl (d5, 2000, .inr (.inl (vp_updL e5 x1.toNatClampNeg n1)))), (h1, .inr (10, [.int k1, .int k2, .int k3, .int k4, .int k5, .int k6, .ref h2])), (h2, .inr (11, [.long n1, .long n2, .long n3, .long n4, .long n5, .long n6]))] H := hP
        have hD : va_D A [(h0, .inr (3, [.ref b1, .ref b2, .ref b3, .ref b4, .ref b5, .ref b6, .ref b7])), (b4, .inl (d4, 2000, .inl (upd e4 x1.toNatClampNeg 1))), (b5, .inl (d5, 2000, .inr (.inl (vp_updL e5 x1.toNatClampNeg n1)))), (h1, .inr (10, [.int k1, .int k2, .int k3, .int k4, .int k5, .int k6, .ref h2])), (h2, .inr (11, [.long n1, .long n2, .long n3, .long n4, .long n5, .long n6]))] := hD
        refine lv_goto (tgt := 88) hx hb d_Facts_reckon_57 (by decide) ?_
        exact fg_retv (upd e4 x1.toNatClampNeg 1, vp_updL e5 x1.toNatClampNeg n1) hx hb hr hlocks ⟨(by unfold fx_Facts_reckon_b4; (repeat rw [if_pos c_2]); (repeat rw [if_neg c_5]); first | done | rfl | contradiction), (by unfold fx_Facts_reckon_b5; (repeat rw [if_pos c_2]); (repeat rw [if_neg c_5]); first | done | rfl | contradiction)⟩ (hP.sub (ws' := [(h0, .inr (3, [.ref b1, .ref b2, .ref b3, .ref b4, .ref b5, .ref b6, .ref b7])), (b4, .inl (d4, 2000, .inl (upd e4 x1.toNatClampNeg 1))), (b5, .inl (d5, 2000, .inr (.inl (vp_updL e5 x1.toNatClampNeg n1)))), (h1, .inr (10, [.int k1, .int k2, .int k3, .int k4, .int k5, .int k6, .ref h2])), (h2, .inr (11, [.long n1, .long n2, .long n3, .long n4, .long n5, .long n6]))]) [0, 1, 2, 3, 4] rfl) (hK.sub (tys' := []) [] rfl) (hD.sub (ws' := [(h0, .inr (3, [.ref b1, .ref b2, .ref b3, .ref b4, .ref b5, .ref b6, .ref b7])), (b4, .inl (d4, 2000, .inl (upd e4 x1.toNatClampNeg 1))), (b5, .inl (d5, 2000, .inr (.inl (vp_updL e5 x1.toNatClampNeg n1)))), (h1, .inr (10, [.int k1, .int k2, .int k3, .int k4, .int k5, .int k6, .ref h2])), (h2, .inr (11, [.long n1, .long n2, .long n3, .long n4, .long n5, .long n6]))]) [0, 1, 2, 3, 4] (by decide) rfl) hS (Nat.le_of_ble_eq_true rfl) (Nat.le_of_ble_eq_true rfl) d_Facts_reckon_88
  refine lv_aload_n hx hb d_Facts_reckon_0 rfl (lv_at hl 2 rfl) ?_
  refine va_get (D := D) (ci := 10) (v := .int k1) (C := "FilterGuard$Cell") (T := F_Cell) (N := 7) hx hb hts i_Cell hown hK hP 3 rfl rfl 0 (by decide) (hts _ u_423) (fun _ h9 => h9) rfl d_Facts_reckon_1 ?_
  refine lv_iconst (v := 1) hx hb d_Facts_reckon_4 (by decide) ?_
  refine lv_icmp_ne (tgt := 22) hx hb d_Facts_reckon_5 (by decide) (fun c_7 => ?_) (fun c_7 => ?_)
  · refine lv_iconst (v := 0) hx hb d_Facts_reckon_22 (by decide) ?_
    exact j0_0 0 _ _ _ (by unfold fx_Facts_reckon_j0; (repeat rw [if_neg c_7]); first | done | rfl | contradiction) (Or.inr rfl) (hP.sub (ws' := [(h0, .inr (3, [.ref b1, .ref b2, .ref b3, .ref b4, .ref b5, .ref b6, .ref b7])), (b4, .inl (d4, 2000, .inl e4)), (b5, .inl (d5, 2000, .inr (.inl e5))), (h1, .inr (10, [.int k1, .int k2, .int k3, .int k4, .int k5, .int k6, .ref h2])), (h2, .inr (11, [.long n1, .long n2, .long n3, .long n4, .long n5, .long n6]))]) [0, 1, 2, 3, 4] rfl) (hD.sub (ws' := [(h0, .inr (3, [.ref b1, .ref b2, .ref b3, .ref b4, .ref b5, .ref b6, .ref b7])), (b4, .inl (d4, 2000, .inl e4)), (b5, .inl (d5, 2000, .inr (.inl e5))), (h1, .inr (10, [.int k1, .int k2, .int k3, .int k4, .int k5, .int k6, .ref h2])), (h2, .inr (11, [.long n1, .long n2, .long n3, .long n4, .long n5, .long n6]))]) [0, 1, 2, 3, 4] (by decide) rfl) hS (lv_sub hl [0, 1, 2] rfl)
  · refine lv_aload_n hx hb d_Facts_reckon_8 rfl (lv_at hl 2 rfl) ?_
    refine va_get (D := D) (ci := 10) (v := .ref h2) (C := "FilterGuard$Cell") (T := F_Cell) (N := 7) hx hb hts i_Cell hown hK hP 3 rfl rfl 6 (by decide) (hts _ u_436) (fun _ h9 => h9) rfl d_Facts_reckon_9 ?_
    refine fg_theni (wr := [(h0, .inr (3, [.ref b1, .ref b2, .ref b3, .ref b4, .ref b5, .ref b6, .ref b7])), (b4, .inl (d4, 2000, .inl e4)), (b5, .inl (d5, 2000, .inr (.inl e5))), (h1, .inr (10, [.int k1, .int k2, .int k3, .int k4, .int k5, .int k6, .ref h2]))]) (fg_runV (C := "FilterGuard$Num") (As := []) (rest := []) (ci := 11) (q0 := 0) ⟨hx, hb, hml, hown, hts⟩ (c_Num_isExact l D h2 n1 n2 n3 n4 n5 n6 s.heap.size) rfl (by show fg_nm y_Num_isExact0 0; decide +kernel) u_1438 u_1158 u_1159 u_187 u_1160 ⟨Nat.le_of_ble_eq_true rfl, Nat.le_of_ble_eq_true rfl⟩ hX (hP.sub (ws' := [(h2, .inr (11, [.long n1, .long n2, .long n3, .long n4, .long n5, .long n6]))]) [4] rfl) (hK.sub (tys' := []) [] rfl) (hD.sub (ws' := [(h2, .inr (11, [.long n1, .long n2, .long n3, .long n4, .long n5, .long n6]))]) [4] (by decide) rfl) rfl rfl rfl rfl hl.1 (Nat.le_of_ble_eq_true rfl) d_Facts_reckon_12 ⟨(Nat.le_of_ble_eq_true rfl), (Nat.le_of_ble_eq_true rfl)⟩) hP hD hK hS hA [4] [0, 1, 2, 3] rfl rfl (by decide) (by decide) (fun r12_8 u H locs hw12_7 hP hD hK hS => ?_)
    try dsimp only at hw12_7
    have hP : va_P D classes [(h0, .inr (3, [.ref b1, .ref b2, .ref b3, .ref b4, .ref b5, .ref b6, .ref b7])), (b4, .inl (d4, 2000, .inl e4)), (b5, .inl (d5, 2000, .inr (.inl e5))), (h1, .inr (10, [.int k1, .int k2, .int k3, .int k4, .int k5, .int k6, .ref h2])), (h2, .inr (11, [.long n1, .long n2, .long n3, .long n4, .long n5, .long n6]))] H := hP
    have hD : va_D A [(h0, .inr (3, [.ref b1, .ref b2, .ref b3, .ref b4, .ref b5, .ref b6, .ref b7])), (b4, .inl (d4, 2000, .inl e4)), (b5, .inl (d5, 2000, .inr (.inl e5))), (h1, .inr (10, [.int k1, .int k2, .int k3, .int k4, .int k5, .int k6, .ref h2])), (h2, .inr (11, [.long n1, .long n2, .long n3, .long n4, .long n5, .long n6]))] := hD
    have hK : va_K D classes [(d4, .int), (d5, .long)] s := hK
    refine W.widen (k := 0) (n := 0) (Nat.le_of_ble_eq_true rfl) (Nat.le_of_ble_eq_true rfl) ?_
    have hzo9 : r12_8 = 1 ∨ r12_8 = 0 := by rw [hw12_7]; split; exact Or.inl rfl; exact Or.inr rfl
    subst hw12_7
    refine lv_if_eq (tgt := 22) hx hb d_Facts_reckon_15 (by decide) (fun c_10 => ?_) (fun c_10 => ?_)
    · refine lv_iconst (v := 0) hx hb d_Facts_reckon_22 (by decide) ?_
      exact j0_0 0 _ _ _ (by unfold fx_Facts_reckon_j0; (repeat rw [if_pos c_7]); (repeat rw [if_pos c_10]); first | done | rfl | contradiction) (Or.inr rfl) (hP.sub (ws' := [(h0, .inr (3, [.ref b1, .ref b2, .ref b3, .ref b4, .ref b5, .ref b6, .ref b7])), (b4, .inl (d4, 2000, .inl e4)), (b5, .inl (d5, 2000, .inr (.inl e5))), (h1, .inr (10, [.int k1, .int k2, .int k3, .int k4, .int k5, .int k6, .ref h2])), (h2, .inr (11, [.long n1, .long n2, .long n3, .long n4, .long n5, .long n6]))]) [0, 1, 2, 3, 4] rfl) (hD.sub (ws' := [(h0, .inr (3, [.ref b1, .ref b2, .ref b3, .ref b4, .ref b5, .ref b6, .ref b7])), (b4, .inl (d4, 2000, .inl e4)), (b5, .inl (d5, 2000, .inr (.inl e5))), (h1, .inr (10, [.int k1, .int k2, .int k3, .int k4, .int k5, .int k6, .ref h2])), (h2, .inr (11, [.long n1, .long n2, .long n3, .long n4, .long n5, .long n6]))]) [0, 1, 2, 3, 4] (by decide) rfl) hS (lv_sub hl [0, 1, 2] rfl)
    · refine lv_iconst (v := 1) hx hb d_Facts_reckon_18 (by decide) ?_
      refine lv_goto (tgt := 23) hx hb d_Facts_reckon_19 (by decide) ?_
      exact j0_0 1 _ _ _ (by unfold fx_Facts_reckon_j0; (repeat rw [if_pos c_7]); (repeat rw [if_neg c_10]); first | done | rfl | contradiction) (Or.inl rfl) (hP.sub (ws' := [(h0, .inr (3, [.ref b1, .ref b2, .ref b3, .ref b4, .ref b5, .ref b6, .ref b7])), (b4, .inl (d4, 2000, .inl e4)), (b5, .inl (d5, 2000, .inr (.inl e5))), (h1, .inr (10, [.int k1, .int k2, .int k3, .int k4, .int k5, .int k6, .ref h2])), (h2, .inr (11, [.long n1, .long n2, .long n3, .long n4, .long n5, .long n6]))]) [0, 1, 2, 3, 4] rfl) (hD.sub (ws' := [(h0, .inr (3, [.ref b1, .ref b2, .ref b3, .ref b4, .ref b5, .ref b6, .ref b7])), (b4, .inl (d4, 2000, .inl e4)), (b5, .inl (d5, 2000, .inr (.inl e5))), (h1, .inr (10, [.int k1, .int k2, .int k3, .int k4, .int k5, .int k6, .ref h2])), (h2, .inr (11, [.long n1, .long n2, .long n3, .long n4, .long n5, .long n6]))]) [0, 1, 2, 3, 4] (by decide) rfl) hS (lv_sub hl [0, 1, 2] rfl)
def fx_Facts_answer_j0 (e4 : Nat → Int32) (x1 : Int32) : Int32 := (if (e4 x1.toNatClampNeg) = 1 then 1 else 0)
def fx_Facts_answer_r (e1 : Nat → Int32) (e2 : Nat → Int32) (e3 : Nat → Int32) (e4 : Nat → Int32) (e5 : Nat → Int64) (x1 : Int32) (x2 : Int32) : Int64 := (if x2 = 0 then ((e1 x1.toNatClampNeg).toInt64) else (if x2 = 1 then (if (e2 x1.toNatClampNeg) = 0 then 0 else 1) else (if x2 = 2 then (if (e3 x1.toNatClampNeg) = 0 then 0 else 1) else (if x2 = 3 then (if (fx_Facts_answer_j0 e4 x1) = 0 then 0 else 1) else (if (fx_Facts_answer_j0 e4 x1) = 0 then 0 else (e5 x1.toNatClampNeg))))))
def rm_Facts_answer : Room := { frames := 1, cells := 0, slots := 0, locals := 20 }
abbrev q_Facts_answer (D : va_G) (h0 : Nat) (b1 : Nat) (b2 : Nat) (b3 : Nat) (b4 : Nat) (b5 : Nat) (b6 : Nat) (b7 : Nat) (d1 : ClassId) (d2 : ClassId) (d3 : ClassId) (d4 : ClassId) (d5 : ClassId) (e1 : Nat → Int32) (e2 : Nat → Int32) (e3 : Nat → Int32) (e4 : Nat → Int32) (e5 : Nat → Int64) (x1 : Int32) (x2 : Int32) (A : Nat → Prop) : Array Value → Jvm.State → Outcome → Jvm.State → Prop := va_Ql (fun (r : Int64) (_ : Unit) => r = (fx_Facts_answer_r e1 e2 e3 e4 e5 x1 x2)) (fg_B D A (fun (_ : Unit) => [(h0, .inr (3, [.ref b1, .ref b2, .ref b3, .ref b4, .ref b5, .ref b6, .ref b7])), (b1, .inl (d1, 2000, .inl e1)), (b2, .inl (d2, 2000, .inl e2)), (b3, .inl (d3, 2000, .inl e3)), (b4, .inl (d4, 2000, .inl e4)), (b5, .inl (d5, 2000, .inr (.inl e5)))]) (fun (_ : Unit) => [])) A
set_option maxHeartbeats 4000000 in
set_option maxRecDepth 100000 in
theorem c_Facts_answer (l : Launch) (D : va_G) (h0 : Nat) (b1 : Nat) (b2 : Nat) (b3 : Nat) (b4 : Nat) (b5 : Nat) (b6 : Nat) (b7 : Nat) (d1 : ClassId) (d2 : ClassId) (d3 : ClassId) (d4 : ClassId) (d5 : ClassId) (e1 : Nat → Int32) (e2 : Nat → Int32) (e3 : Nat → Int32) (e4 : Nat → Int32) (e5 : Nat → Int64) (x1 : Int32) (x2 : Int32) (sz : Nat) (hx1 : vp_in x1 2000) : Met l y_Facts_answer (fg_w y_Facts_answer prog_6_method_6_code 4 (some .long)) rm_Facts_answer (va_Pc [.ref h0, .int x1, .int x2] (fg_P D [(d1, .int), (d2, .boolean), (d3, .boolean), (d4, .int), (d5, .long)] [(h0, .inr (3, [.ref b1, .ref b2, .ref b3, .ref b4, .ref b5, .ref b6, .ref b7])), (b1, .inl (d1, 2000, .inl e1)), (b2, .inl (d2, 2000, .inl e2)), (b3, .inl (d3, 2000, .inl e3)), (b4, .inl (d4, 2000, .inl e4)), (b5, .inl (d5, 2000, .inr (.inl e5)))] sz)) (q_Facts_answer D h0 b1 b2 b3 b4 b5 b6 b7 d1 d2 d3 d4 d5 e1 e2 e3 e4 e5 x1 x2 (va_A [(h0, .inr (3, [.ref b1, .ref b2, .ref b3, .ref b4, .ref b5, .ref b6, .ref b7])), (b1, .inl (d1, 2000, .inl e1)), (b2, .inl (d2, 2000, .inl e2)), (b3, .inl (d3, 2000, .inl e3)), (b4, .inl (d4, 2000, .inl e4)), (b5, .inl (d5, 2000, .inr (.inl e5)))] sz)) rm_Facts_answer.cells rm_Facts_answer.slots (va_A [(h0, .inr (3, [.ref b1, .ref b2, .ref b3, .ref b4, .ref b5, .ref b6, .ref b7])), (b1, .inl (d1, 2000, .inl e1)), (b2, .inl (d2, 2000, .inl e2)), (b3, .inl (d3, 2000, .inl e3)), (b4, .inl (d4, 2000, .inl e4)), (b5, .inl (d5, 2000, .inr (.inl e5)))] sz) := by
  refine fg_enter (fun A => q_Facts_answer D h0 b1 b2 b3 b4 b5 b6 b7 d1 d2 d3 d4 d5 e1 e2 e3 e4 e5 x1 x2 A) (by decide +kernel) (Nat.le_of_ble_eq_true rfl) ?_
  intro p e s m below meth c ls A hx hb hml hown hts hr hlocks hin hP hK hD hS hA hX hl
  have hl : lv_has ls 4 [(0, .ref h0), (1, .int x1), (2, .int x2)] := hl
  have j0_0 : ∀ (v0_0 : Int32) (H : Heap) (locs : List Loc) (ls : Array Slot), v0_0 = (fx_Facts_answer_j0 e4 x1) → (v0_0 = 1 ∨ v0_0 = 0) → va_P D classes [(h0, .inr (3, [.ref b1, .ref b2, .ref b3, .ref b4, .ref b5, .ref b6, .ref b7])), (b1, .inl (d1, 2000, .inl e1)), (b2, .inl (d2, 2000, .inl e2)), (b3, .inl (d3, 2000, .inl e3)), (b4, .inl (d4, 2000, .inl e4)), (b5, .inl (d5, 2000, .inr (.inl e5)))] H → va_D A [(h0, .inr (3, [.ref b1, .ref b2, .ref b3, .ref b4, .ref b5, .ref b6, .ref b7])), (b1, .inl (d1, 2000, .inl e1)), (b2, .inl (d2, 2000, .inl e2)), (b3, .inl (d3, 2000, .inl e3)), (b4, .inl (d4, 2000, .inl e4)), (b5, .inl (d5, 2000, .inr (.inl e5)))] → va_S A s.heap H locs → lv_has ls 4 [(0, .ref h0), (1, .int x1), (2, .int x2)] → W p l e rm_Facts_answer s m [.ref h0, .int x1, .int x2].toArray below meth c H locs (0) (0) (MQ below (q_Facts_answer D h0 b1 b2 b3 b4 b5 b6 b7 d1 d2 d3 d4 d5 e1 e2 e3 e4 e5 x1 x2 A) [.ref h0, .int x1, .int x2].toArray s rm_Facts_answer.cells rm_Facts_answer.slots A) (F0 m 15 ls (.int v0_0 :: [])) := by
    intro v0_0 H locs ls hv0_0 zv0_0 hP hD hS hl
    subst hv0_0
    refine lv_istore_n (lv' := [(3, .int (fx_Facts_answer_j0 e4 x1)), (0, .ref h0), (1, .int x1), (2, .int x2)]) hx hb d_Facts_answer_15 rfl hl (by decide) rfl (fun ls hl => ?_)
    refine lv_iload_n hx hb d_Facts_answer_16 rfl (lv_at hl 3 rfl) ?_
    by_cases n_2 : x2 = 0
    · subst n_2
      refine lv_tableIn (off := 31) (tgt := 48) hx hb d_Facts_answer_17 (by decide) (by decide) (by decide) (by decide) ?_
      refine lv_aload_n hx hb d_Facts_answer_48 rfl (lv_at hl 1 rfl) ?_
      refine va_get (D := D) (ci := 3) (v := .ref b1) (C := "FilterGuard$Facts") (T := F_Facts) (N := 7) hx hb hts i_Facts hown hK hP 0 rfl rfl 0 (by decide) (hts _ u_318) (fun _ h9 => h9) rfl d_Facts_answer_49 ?_
      refine lv_iload_n hx hb d_Facts_answer_52 rfl (lv_at hl 2 rfl) ?_
      refine va_iald hx hb hK hP 1 0 rfl rfl hx1 d_Facts_answer_53 ?_
      refine lv_i2l (v := (e1 x1.toNatClampNeg).toInt64) hx hb d_Facts_answer_54 rfl ?_
      exact fg_retl () hx hb hr hlocks (by unfold fx_Facts_answer_r; first | done | rfl | contradiction) (hP.sub (ws' := [(h0, .inr (3, [.ref b1, .ref b2, .ref b3, .ref b4, .ref b5, .ref b6, .ref b7])), (b1, .inl (d1, 2000, .inl e1)), (b2, .inl (d2, 2000, .inl e2)), (b3, .inl (d3, 2000, .inl e3)), (b4, .inl (d4, 2000, .inl e4)), (b5, .inl (d5, 2000, .inr (.inl e5)))]) [0, 1, 2, 3, 4, 5] rfl) (hK.sub (tys' := []) [] rfl) (hD.sub (ws' := [(h0, .inr (3, [.ref b1, .ref b2, .ref b3, .ref b4, .ref b5, .ref b6, .ref b7])), (b1, .inl (d1, 2000, .inl e1)), (b2, .inl (d2, 2000, .inl e2)), (b3, .inl (d3, 2000, .inl e3)), (b4, .inl (d4, 2000, .inl e4)), (b5, .inl (d5, 2000, .inr (.inl e5)))]) [0, 1, 2, 3, 4, 5] (by decide) rfl) hS (Nat.le_of_ble_eq_true rfl) (Nat.le_of_ble_eq_true rfl) d_Facts_answer_55
    by_cases n_3 : x2 = 1
    · subst n_3
      refine lv_tableIn (off := 39) (tgt := 56) hx hb d_Facts_answer_17 (by decide) (by decide) (by decide) (by decide) ?_
      refine lv_aload_n hx hb d_Facts_answer_56 rfl (lv_at hl 1 rfl) ?_
      refine va_get (D := D) (ci := 3) (v := .ref b2) (C := "FilterGuard$Facts") (T := F_Facts) (N := 7) hx hb hts i_Facts hown hK hP 0 rfl rfl 1 (by decide) (hts _ u_319) (fun _ h9 => h9) rfl d_Facts_answer_57 ?_
      refine lv_iload_n hx hb d_Facts_answer_60 rfl (lv_at hl 2 rfl) ?_
      refine va_zald hx hb hK hP 2 1 rfl rfl hx1 d_Facts_answer_61 ?_
      refine lv_if_eq (tgt := 69) hx hb d_Facts_answer_62 (by decide) (fun c_4 => ?_) (fun c_4 => ?_)
      · refine lv_lconst (v := 0) hx hb d_Facts_answer_69 (by decide) ?_
        exact fg_retl () hx hb hr hlocks (by unfold fx_Facts_answer_r; (repeat rw [if_neg n_2]); (repeat rw [if_pos c_4]); first | done | rfl | contradiction) (hP.sub (ws' := [(h0, .inr (3, [.ref b1, .ref b2, .ref b3, .ref b4, .ref b5, .ref b6, .ref b7])), (b1, .inl (d1, 2000, .inl e1)), (b2, .inl (d2, 2000, .inl e2)), (b3, .inl (d3, 2000, .inl e3)), (b4, .inl (d4, 2000, .inl e4)), (b5, .inl (d5, 2000, .inr (.inl e5)))]) [0, 1, 2, 3, 4, 5] rfl) (hK.sub (tys' := []) [] rfl) (hD.sub (ws' := [(h0, .inr (3, [.ref b1, .ref b2, .ref b3, .ref b4, .ref b5, .ref b6, .ref b7])), (b1, .inl (d1, 2000, .inl e1)), (b2, .inl (d2, 2000, .inl e2)), (b3, .inl (d3, 2000, .inl e3)), (b4, .inl (d4, 2000, .inl e4)), (b5, .inl (d5, 2000, .inr (.inl e5)))]) [0, 1, 2, 3, 4, 5] (by decide) rfl) hS (Nat.le_of_ble_eq_true rfl) (Nat.le_of_ble_eq_true rfl) d_Facts_answer_70
      · refine lv_lconst (v := 1) hx hb d_Facts_answer_65 (by decide) ?_
        refine lv_goto (tgt := 70) hx hb d_Facts_answer_66 (by decide) ?_
        exact fg_retl () hx hb hr hlocks (by unfold fx_Facts_answer_r; (repeat rw [if_neg n_2]); (repeat rw [if_neg c_4]); first | done | rfl | contradiction) (hP.sub (ws' := [(h0, .inr (3, [.ref b1, .ref b2, .ref b3, .ref b4, .ref b5, .ref b6, .ref b7])), (b1, .inl (d1, 2000, .inl e1)), (b2, .inl (d2, 2000, .inl e2)), (b3, .inl (d3, 2000, .inl e3)), (b4, .inl (d4, 2000, .inl e4)), (b5, .inl (d5, 2000, .inr (.inl e5)))]) [0, 1, 2, 3, 4, 5] rfl) (hK.sub (tys' := []) [] rfl) (hD.sub (ws' := [(h0, .inr (3, [.ref b1, .ref b2, .ref b3, .ref b4, .ref b5, .ref b6, .ref b7])), (b1, .inl (d1, 2000, .inl e1)), (b2, .inl (d2, 2000, .inl e2)), (b3, .inl (d3, 2000, .inl e3)), (b4, .inl (d4, 2000, .inl e4)), (b5, .inl (d5, 2000, .inr (.inl e5)))]) [0, 1, 2, 3, 4, 5] (by decide) rfl) hS (Nat.le_of_ble_eq_true rfl) (Nat.le_of_ble_eq_true rfl) d_Facts_answer_70
    by_cases n_5 : x2 = 2
    · subst n_5
      refine lv_tableIn (off := 54) (tgt := 71) hx hb d_Facts_answer_17 (by decide) (by decide) (by decide) (by decide) ?_
      refine lv_aload_n hx hb d_Facts_answer_71 rfl (lv_at hl 1 rfl) ?_
      refine va_get (D := D) (ci := 3) (v := .ref b3) (C := "FilterGuard$Facts") (T := F_Facts) (N := 7) hx hb hts i_Facts hown hK hP 0 rfl rfl 2 (by decide) (hts _ u_320) (fun _ h9 => h9) rfl d_Facts_answer_72 ?_
      refine lv_iload_n hx hb d_Facts_answer_75 rfl (lv_at hl 2 rfl) ?_
      refine va_zald hx hb hK hP 3 2 rfl rfl hx1 d_Facts_answer_76 ?_
      refine lv_if_eq (tgt := 84) hx hb d_Facts_answer_77 (by decide) (fun c_6 => ?_) (fun c_6 => ?_)
      · refine lv_lconst (v := 0) hx hb d_Facts_answer_84 (by decide) ?_
        exact fg_retl () hx hb hr hlocks (by unfold fx_Facts_answer_r; (repeat rw [if_neg n_2]); (repeat rw [if_neg n_3]); (repeat rw [if_pos c_6]); first | done | rfl | contradiction) (hP.sub (ws' := [(h0, .inr (3, [.ref b1, .ref b2, .ref b3, .ref b4, .ref b5, .ref b6, .ref b7])), (b1, .inl (d1, 2000, .inl e1)), (b2, .inl (d2, 2000, .inl e2)), (b3, .inl (d3, 2000, .inl e3)), (b4, .inl (d4, 2000, .inl e4)), (b5, .inl (d5, 2000, .inr (.inl e5)))]) [0, 1, 2, 3, 4, 5] rfl) (hK.sub (tys' := []) [] rfl) (hD.sub (ws' := [(h0, .inr (3, [.ref b1, .ref b2, .ref b3, .ref b4, .ref b5, .ref b6, .ref b7])), (b1, .inl (d1, 2000, .inl e1)), (b2, .inl (d2, 2000, .inl e2)), (b3, .inl (d3, 2000, .inl e3)), (b4, .inl (d4, 2000, .inl e4)), (b5, .inl (d5, 2000, .inr (.inl e5)))]) [0, 1, 2, 3, 4, 5] (by decide) rfl) hS (Nat.le_of_ble_eq_true rfl) (Nat.le_of_ble_eq_true rfl) d_Facts_answer_85
      · refine lv_lconst (v := 1) hx hb d_Facts_answer_80 (by decide) ?_
        refine lv_goto (tgt := 85) hx hb d_Facts_answer_81 (by decide) ?_
        exact fg_retl () hx hb hr hlocks (by unfold fx_Facts_answer_r; (repeat rw [if_neg n_2]); (repeat rw [if_neg n_3]); (repeat rw [if_neg c_6]); first | done | rfl | contradiction) (hP.sub (ws' := [(h0, .inr (3, [.ref b1, .ref b2, .ref b3, .ref b4, .ref b5, .ref b6, .ref b7])), (b1, .inl (d1, 2000, .inl e1)), (b2, .inl (d2, 2000, .inl e2)), (b3, .inl (d3, 2000, .inl e3)), (b4, .inl (d4, 2000, .inl e4)), (b5, .inl (d5, 2000, .inr (.inl e5)))]) [0, 1, 2, 3, 4, 5] rfl) (hK.sub (tys' := []) [] rfl) (hD.sub (ws' := [(h0, .inr (3, [.ref b1, .ref b2, .ref b3, .ref b4, .ref b5, .ref b6, .ref b7])), (b1, .inl (d1, 2000, .inl e1)), (b2, .inl (d2, 2000, .inl e2)), (b3, .inl (d3, 2000, .inl e3)), (b4, .inl (d4, 2000, .inl e4)), (b5, .inl (d5, 2000, .inr (.inl e5)))]) [0, 1, 2, 3, 4, 5] (by decide) rfl) hS (Nat.le_of_ble_eq_true rfl) (Nat.le_of_ble_eq_true rfl) d_Facts_answer_85
    by_cases n_7 : x2 = 3
    · subst n_7
      refine lv_tableIn (off := 69) (tgt := 86) hx hb d_Facts_answer_17 (by decide) (by decide) (by decide) (by decide) ?_
      refine lv_iload_n hx hb d_Facts_answer_86 rfl (lv_at hl 0 rfl) ?_
      refine lv_if_eq (tgt := 94) hx hb d_Facts_answer_87 (by decide) (fun c_8 => ?_) (fun c_8 => ?_)
      · refine lv_lconst (v := 0) hx hb d_Facts_answer_94 (by decide) ?_
        exact fg_retl () hx hb hr hlocks (by unfold fx_Facts_answer_r; (repeat rw [if_neg n_2]); (repeat rw [if_neg n_3]); (repeat rw [if_neg n_5]); (repeat rw [if_pos c_8]); first | done | rfl | contradiction) (hP.sub (ws' := [(h0, .inr (3, [.ref b1, .ref b2, .ref b3, .ref b4, .ref b5, .ref b6, .ref b7])), (b1, .inl (d1, 2000, .inl e1)), (b2, .inl (d2, 2000, .inl e2)), (b3, .inl (d3, 2000, .inl e3)), (b4, .inl (d4, 2000, .inl e4)), (b5, .inl (d5, 2000, .inr (.inl e5)))]) [0, 1, 2, 3, 4, 5] rfl) (hK.sub (tys' := []) [] rfl) (hD.sub (ws' := [(h0, .inr (3, [.ref b1, .ref b2, .ref b3, .ref b4, .ref b5, .ref b6, .ref b7])), (b1, .inl (d1, 2000, .inl e1)), (b2, .inl (d2, 2000, .inl e2)), (b3, .inl (d3, 2000, .inl e3)), (b4, .inl (d4, 2000, .inl e4)), (b5, .inl (d5, 2000, .inr (.inl e5)))]) [0, 1, 2, 3, 4, 5] (by decide) rfl) hS (Nat.le_of_ble_eq_true rfl) (Nat.le_of_ble_eq_true rfl) d_Facts_answer_95
      · refine lv_lconst (v := 1) hx hb d_Facts_answer_90 (by decide) ?_
        refine lv_goto (tgt := 95) hx hb d_Facts_answer_91 (by decide) ?_
        exact fg_retl () hx hb hr hlocks (by unfold fx_Facts_answer_r; (repeat rw [if_neg n_2]); (repeat rw [if_neg n_3]); (repeat rw [if_neg n_5]); (repeat rw [if_neg c_8]); first | done | rfl | contradiction) (hP.sub (ws' := [(h0, .inr (3, [.ref b1, .ref b2, .ref b3, .ref b4, .ref b5, .ref b6, .ref b7])), (b1, .inl (d1, 2000, .inl e1)), (b2, .inl (d2, 2000, .inl e2)), (b3, .inl (d3, 2000, .inl e3)), (b4, .inl (d4, 2000, .inl e4)), (b5, .inl (d5, 2000, .inr (.inl e5)))]) [0, 1, 2, 3, 4, 5] rfl) (hK.sub (tys' := []) [] rfl) (hD.sub (ws' := [(h0, .inr (3, [.ref b1, .ref b2, .ref b3, .ref b4, .ref b5, .ref b6, .ref b7])), (b1, .inl (d1, 2000, .inl e1)), (b2, .inl (d2, 2000, .inl e2)), (b3, .inl (d3, 2000, .inl e3)), (b4, .inl (d4, 2000, .inl e4)), (b5, .inl (d5, 2000, .inr (.inl e5)))]) [0, 1, 2, 3, 4, 5] (by decide) rfl) hS (Nat.le_of_ble_eq_true rfl) (Nat.le_of_ble_eq_true rfl) d_Facts_answer_95
    have in_2 := lv_neT n_2 (show (0 : Int32).toInt = 0 from rfl)
    have in_3 := lv_neT n_3 (show (1 : Int32).toInt = 1 from rfl)
    have in_5 := lv_neT n_5 (show (2 : Int32).toInt = 2 from rfl)
    have in_7 := lv_neT n_7 (show (3 : Int32).toInt = 3 from rfl)
    refine lv_tableOut (tgt := 96) hx hb d_Facts_answer_17 (by omega) (by decide) ?_
    refine lv_iload_n hx hb d_Facts_answer_96 rfl (lv_at hl 0 rfl) ?_
    refine lv_if_eq (tgt := 109) hx hb d_Facts_answer_97 (by decide) (fun c_9 => ?_) (fun c_9 => ?_)
    · refine lv_lconst (v := 0) hx hb d_Facts_answer_109 (by decide) ?_
      exact fg_retl () hx hb hr hlocks (by unfold fx_Facts_answer_r; (repeat rw [if_neg n_2]); (repeat rw [if_neg n_3]); (repeat rw [if_neg n_5]); (repeat rw [if_neg n_7]); (repeat rw [if_pos c_9]); first | done | rfl | contradiction) (hP.sub (ws' := [(h0, .inr (3, [.ref b1, .ref b2, .ref b3, .ref b4, .ref b5, .ref b6, .ref b7])), (b1, .inl (d1, 2000, .inl e1)), (b2, .inl (d2, 2000, .inl e2)), (b3, .inl (d3, 2000, .inl e3)), (b4, .inl (d4, 2000, .inl e4)), (b5, .inl (d5, 2000, .inr (.inl e5)))]) [0, 1, 2, 3, 4, 5] rfl) (hK.sub (tys' := []) [] rfl) (hD.sub (ws' := [(h0, .inr (3, [.ref b1, .ref b2, .ref b3, .ref b4, .ref b5, .ref b6, .ref b7])), (b1, .inl (d1, 2000, .inl e1)), (b2, .inl (d2, 2000, .inl e2)), (b3, .inl (d3, 2000, .inl e3)), (b4, .inl (d4, 2000, .inl e4)), (b5, .inl (d5, 2000, .inr (.inl e5)))]) [0, 1, 2, 3, 4, 5] (by decide) rfl) hS (Nat.le_of_ble_eq_true rfl) (Nat.le_of_ble_eq_true rfl) d_Facts_answer_110
    · refine lv_aload_n hx hb d_Facts_answer_100 rfl (lv_at hl 1 rfl) ?_
      refine va_get (D := D) (ci := 3) (v := .ref b5) (C := "FilterGuard$Facts") (T := F_Facts) (N := 7) hx hb hts i_Facts hown hK hP 0 rfl rfl 4 (by decide) (hts _ u_322) (fun _ h9 => h9) rfl d_Facts_answer_101 ?_
      refine lv_iload_n hx hb d_Facts_answer_104 rfl (lv_at hl 2 rfl) ?_
      refine va_lald hx hb hK hP 5 4 rfl rfl hx1 d_Facts_answer_105 ?_
      refine lv_goto (tgt := 110) hx hb d_Facts_answer_106 (by decide) ?_
      exact fg_retl () hx hb hr hlocks (by unfold fx_Facts_answer_r; (repeat rw [if_neg n_2]); (repeat rw [if_neg n_3]); (repeat rw [if_neg n_5]); (repeat rw [if_neg n_7]); (repeat rw [if_neg c_9]); first | done | rfl | contradiction) (hP.sub (ws' := [(h0, .inr (3, [.ref b1, .ref b2, .ref b3, .ref b4, .ref b5, .ref b6, .ref b7])), (b1, .inl (d1, 2000, .inl e1)), (b2, .inl (d2, 2000, .inl e2)), (b3, .inl (d3, 2000, .inl e3)), (b4, .inl (d4, 2000, .inl e4)), (b5, .inl (d5, 2000, .inr (.inl e5)))]) [0, 1, 2, 3, 4, 5] rfl) (hK.sub (tys' := []) [] rfl) (hD.sub (ws' := [(h0, .inr (3, [.ref b1, .ref b2, .ref b3, .ref b4, .ref b5, .ref b6, .ref b7])), (b1, .inl (d1, 2000, .inl e1)), (b2, .inl (d2, 2000, .inl e2)), (b3, .inl (d3, 2000, .inl e3)), (b4, .inl (d4, 2000, .inl e4)), (b5, .inl (d5, 2000, .inr (.inl e5)))]) [0, 1, 2, 3, 4, 5] (by decide) rfl) hS (Nat.le_of_ble_eq_true rfl) (Nat.le_of_ble_eq_true rfl) d_Facts_answer_110
  refine lv_aload_n hx hb d_Facts_answer_0 rfl (lv_at hl 0 rfl) ?_
  refine va_get (D := D) (ci := 3) (v := .ref b4) (C := "FilterGuard$Facts") (T := F_Facts) (N := 7) hx hb hts i_Facts hown hK hP 0 rfl rfl 3 (by decide) (hts _ u_321) (fun _ h9 => h9) rfl d_Facts_answer_1 ?_
  refine lv_iload_n hx hb d_Facts_answer_4 rfl (lv_at hl 1 rfl) ?_
  refine va_iald hx hb hK hP 4 3 rfl rfl hx1 d_Facts_answer_5 ?_
  refine lv_iconst (v := 1) hx hb d_Facts_answer_6 (by decide) ?_
  refine lv_icmp_ne (tgt := 14) hx hb d_Facts_answer_7 (by decide) (fun c_10 => ?_) (fun c_10 => ?_)
  · refine lv_iconst (v := 0) hx hb d_Facts_answer_14 (by decide) ?_
    exact j0_0 0 _ _ _ (by unfold fx_Facts_answer_j0; (repeat rw [if_neg c_10]); first | done | rfl | contradiction) (Or.inr rfl) (hP.sub (ws' := [(h0, .inr (3, [.ref b1, .ref b2, .ref b3, .ref b4, .ref b5, .ref b6, .ref b7])), (b1, .inl (d1, 2000, .inl e1)), (b2, .inl (d2, 2000, .inl e2)), (b3, .inl (d3, 2000, .inl e3)), (b4, .inl (d4, 2000, .inl e4)), (b5, .inl (d5, 2000, .inr (.inl e5)))]) [0, 1, 2, 3, 4, 5] rfl) (hD.sub (ws' := [(h0, .inr (3, [.ref b1, .ref b2, .ref b3, .ref b4, .ref b5, .ref b6, .ref b7])), (b1, .inl (d1, 2000, .inl e1)), (b2, .inl (d2, 2000, .inl e2)), (b3, .inl (d3, 2000, .inl e3)), (b4, .inl (d4, 2000, .inl e4)), (b5, .inl (d5, 2000, .inr (.inl e5)))]) [0, 1, 2, 3, 4, 5] (by decide) rfl) hS (lv_sub hl [0, 1, 2] rfl)
  · refine lv_iconst (v := 1) hx hb d_Facts_answer_10 (by decide) ?_
    refine lv_goto (tgt := 15) hx hb d_Facts_answer_11 (by decide) ?_
    exact j0_0 1 _ _ _ (by unfold fx_Facts_answer_j0; (repeat rw [if_pos c_10]); first | done | rfl | contradiction) (Or.inl rfl) (hP.sub (ws' := [(h0, .inr (3, [.ref b1, .ref b2, .ref b3, .ref b4, .ref b5, .ref b6, .ref b7])), (b1, .inl (d1, 2000, .inl e1)), (b2, .inl (d2, 2000, .inl e2)), (b3, .inl (d3, 2000, .inl e3)), (b4, .inl (d4, 2000, .inl e4)), (b5, .inl (d5, 2000, .inr (.inl e5)))]) [0, 1, 2, 3, 4, 5] rfl) (hD.sub (ws' := [(h0, .inr (3, [.ref b1, .ref b2, .ref b3, .ref b4, .ref b5, .ref b6, .ref b7])), (b1, .inl (d1, 2000, .inl e1)), (b2, .inl (d2, 2000, .inl e2)), (b3, .inl (d3, 2000, .inl e3)), (b4, .inl (d4, 2000, .inl e4)), (b5, .inl (d5, 2000, .inr (.inl e5)))]) [0, 1, 2, 3, 4, 5] (by decide) rfl) hS (lv_sub hl [0, 1, 2] rfl)
def fx_Facts_changed_r (e2 : Nat → Int32) (e3 : Nat → Int32) (e4 : Nat → Int32) (e5 : Nat → Int64) (ct1 : Int32) (co1 : Int32) (cg1 : Int32) (f : Nat → Int64) (x1 : Int32) : Int64 := (if cg1 = 8 then (if (e2 x1.toNatClampNeg) = 0 then (f x1.toNatClampNeg) else (if (e3 x1.toNatClampNeg) = 0 then (5 ||| ((co1.toInt64 &&& 65535) <<< ((16 : Int32).toInt64 &&& 63))) else (f x1.toNatClampNeg))) else (if cg1 = 6 then (if (e4 x1.toNatClampNeg) = 1 then (if (e5 x1.toNatClampNeg) = (((e5 x1.toNatClampNeg).toInt32).toInt64) then ((183 ||| (ct1.toInt64 <<< ((8 : Int32).toInt64 &&& 63))) ||| ((e5 x1.toNatClampNeg) <<< ((32 : Int32).toInt64 &&& 63))) else (f x1.toNatClampNeg)) else (f x1.toNatClampNeg)) else (f x1.toNatClampNeg)))
def rm_Facts_changed : Room := { frames := 1, cells := 0, slots := 0, locals := 20 }
abbrev q_Facts_changed (D : va_G) (h0 : Nat) (b1 : Nat) (b2 : Nat) (b3 : Nat) (b4 : Nat) (b5 : Nat) (b6 : Nat) (b7 : Nat) (d2 : ClassId) (d3 : ClassId) (d4 : ClassId) (d5 : ClassId) (e2 : Nat → Int32) (e3 : Nat → Int32) (e4 : Nat → Int32) (e5 : Nat → Int64) (h1 : Nat) (hs : Nat) (hi : Nat) (hm : Nat) (n : Nat) (cf1 : Int32) (o : Int32) (ct1 : Int32) (ct2 : Int32) (co1 : Int32) (cf2 : Int32) (cg1 : Int32) (cb1 : Int32) (cn1 : Int32) (cn2 : Int32) (cr1 : Int32) (cr2 : Int32) (cs : ClassId) (f : Nat → Int64) (x1 : Int32) (A : Nat → Prop) : Array Value → Jvm.State → Outcome → Jvm.State → Prop := va_Ql (fun (r : Int64) (_ : Unit) => r = (fx_Facts_changed_r e2 e3 e4 e5 ct1 co1 cg1 f x1)) (fg_B D A (fun (_ : Unit) => [(h0, .inr (3, [.ref b1, .ref b2, .ref b3, .ref b4, .ref b5, .ref b6, .ref b7])), (b2, .inl (d2, 2000, .inl e2)), (b3, .inl (d3, 2000, .inl e3)), (b4, .inl (d4, 2000, .inl e4)), (b5, .inl (d5, 2000, .inr (.inl e5))), (h1, .inr (2, [.ref hs, .ref hi, .ref hm, .int (nI n), .int cf1, .int o, .int ct1, .int ct2, .int co1, .int cf2, .int cg1, .int cb1, .int cn1, .int cn2, .int cr1, .int cr2])), (hs, .inl (cs, 2000, .inr (.inl f)))]) (fun (_ : Unit) => [])) A
set_option maxHeartbeats 4000000 in
set_option maxRecDepth 100000 in
theorem c_Facts_changed (l : Launch) (D : va_G) (h0 : Nat) (b1 : Nat) (b2 : Nat) (b3 : Nat) (b4 : Nat) (b5 : Nat) (b6 : Nat) (b7 : Nat) (d2 : ClassId) (d3 : ClassId) (d4 : ClassId) (d5 : ClassId) (e2 : Nat → Int32) (e3 : Nat → Int32) (e4 : Nat → Int32) (e5 : Nat → Int64) (h1 : Nat) (hs : Nat) (hi : Nat) (hm : Nat) (n : Nat) (cf1 : Int32) (o : Int32) (ct1 : Int32) (ct2 : Int32) (co1 : Int32) (cf2 : Int32) (cg1 : Int32) (cb1 : Int32) (cn1 : Int32) (cn2 : Int32) (cr1 : Int32) (cr2 : Int32) (cs : ClassId) (f : Nat → Int64) (x1 : Int32) (sz : Nat) (hx1 : vp_in x1 2000) : Met l y_Facts_changed (fg_w y_Facts_changed prog_6_method_8_code 5 (some .long)) rm_Facts_changed (va_Pc [.ref h0, .ref h1, .int x1] (fg_P D [(d2, .boolean), (d3, .boolean), (d4, .int), (d5, .long), (cs, .long)] [(h0, .inr (3, [.ref b1, .ref b2, .ref b3, .ref b4, .ref b5, .ref b6, .ref b7])), (b2, .inl (d2, 2000, .inl e2)), (b3, .inl (d3, 2000, .inl e3)), (b4, .inl (d4, 2000, .inl e4)), (b5, .inl (d5, 2000, .inr (.inl e5))), (h1, .inr (2, [.ref hs, .ref hi, .ref hm, .int (nI n), .int cf1, .int o, .int ct1, .int ct2, .int co1, .int cf2, .int cg1, .int cb1, .int cn1, .int cn2, .int cr1, .int cr2])), (hs, .inl (cs, 2000, .inr (.inl f)))] sz)) (q_Facts_changed D h0 b1 b2 b3 b4 b5 b6 b7 d2 d3 d4 d5 e2 e3 e4 e5 h1 hs hi hm n cf1 o ct1 ct2 co1 cf2 cg1 cb1 cn1 cn2 cr1 cr2 cs f x1 (va_A [(h0, .inr (3, [.ref b1, .ref b2, .ref b3, .ref b4, .ref b5, .ref b6, .ref b7])), (b2, .inl (d2, 2000, .inl e2)), (b3, .inl (d3, 2000, .inl e3)), (b4, .inl (d4, 2000, .inl e4)), (b5, .inl (d5, 2000, .inr (.inl e5))), (h1, .inr (2, [.ref hs, .ref hi, .ref hm, .int (nI n), .int cf1, .int o, .int ct1, .int ct2, .int co1, .int cf2, .int cg1, .int cb1, .int cn1, .int cn2, .int cr1, .int cr2])), (hs, .inl (cs, 2000, .inr (.inl f)))] sz)) rm_Facts_changed.cells rm_Facts_changed.slots (va_A [(h0, .inr (3, [.ref b1, .ref b2, .ref b3, .ref b4, .ref b5, .ref b6, .ref b7])), (b2, .inl (d2, 2000, .inl e2)), (b3, .inl (d3, 2000, .inl e3)), (b4, .inl (d4, 2000, .inl e4)), (b5, .inl (d5, 2000, .inr (.inl e5))), (h1, .inr (2, [.ref hs, .ref hi, .ref hm, .int (nI n), .int cf1, .int o, .int ct1, .int ct2, .int co1, .int cf2, .int cg1, .int cb1, .int cn1, .int cn2, .int cr1, .int cr2])), (hs, .inl (cs, 2000, .inr (.inl f)))] sz) := by
  refine fg_enter (fun A => q_Facts_changed D h0 b1 b2 b3 b4 b5 b6 b7 d2 d3 d4 d5 e2 e3 e4 e5 h1 hs hi hm n cf1 o ct1 ct2 co1 cf2 cg1 cb1 cn1 cn2 cr1 cr2 cs f x1 A) (by decide +kernel) (Nat.le_of_ble_eq_true rfl) ?_
  intro p e s m below meth c ls A hx hb hml hown hts hr hlocks hin hP hK hD hS hA hX hl
  have hl : lv_has ls 5 [(0, .ref h0), (1, .ref h1), (2, .int x1)] := hl
  refine lv_aload_n hx hb d_Facts_changed_0 rfl (lv_at hl 1 rfl) ?_
  refine va_get (D := D) (ci := 2) (v := .int cg1) (C := "FilterGuard$Code") (T := F_Code) (N := 16) hx hb hts i_Code hown hK hP 5 rfl rfl 10 (by decide) (hts _ u_255) (fun _ h9 => h9) rfl d_Facts_changed_1 ?_
  refine lv_bipush (v := 8) hx hb d_Facts_changed_4 (by decide) ?_
  refine lv_icmp_ne (tgt := 44) hx hb d_Facts_changed_6 (by decide) (fun c_1 => ?_) (fun c_1 => ?_)
  · refine lv_aload_n hx hb d_Facts_changed_44 rfl (lv_at hl 0 rfl) ?_
    refine va_get (D := D) (ci := 3) (v := .ref b5) (C := "FilterGuard$Facts") (T := F_Facts) (N := 7) hx hb hts i_Facts hown hK hP 0 rfl rfl 4 (by decide) (hts _ u_322) (fun _ h9 => h9) rfl d_Facts_changed_45 ?_
    refine lv_iload_n hx hb d_Facts_changed_48 rfl (lv_at hl 2 rfl) ?_
    refine va_lald hx hb hK hP 4 3 rfl rfl hx1 d_Facts_changed_49 ?_
    refine lv_lstore_n (lv' := [(3, .long (e5 x1.toNatClampNeg)), (0, .ref h0), (1, .ref h1), (2, .int x1)]) hx hb d_Facts_changed_50 rfl hl (by decide) rfl (fun ls hl => ?_)
    refine lv_aload_n hx hb d_Facts_changed_51 rfl (lv_at hl 2 rfl) ?_
    refine va_get (D := D) (ci := 2) (v := .int cg1) (C := "FilterGuard$Code") (T := F_Code) (N := 16) hx hb hts i_Code hown hK hP 5 rfl rfl 10 (by decide) (hts _ u_255) (fun _ h9 => h9) rfl d_Facts_changed_52 ?_
    refine lv_bipush (v := 6) hx hb d_Facts_changed_55 (by decide) ?_
    refine lv_icmp_ne (tgt := 96) hx hb d_Facts_changed_57 (by decide) (fun c_2 => ?_) (fun c_2 => ?_)
    · refine lv_aload_n hx hb d_Facts_changed_96 rfl (lv_at hl 2 rfl) ?_
      refine va_get (D := D) (ci := 2) (v := .ref hs) (C := "FilterGuard$Code") (T := F_Code) (N := 16) hx hb hts i_Code hown hK hP 5 rfl rfl 0 (by decide) (hts _ u_221) (fun _ h9 => h9) rfl d_Facts_changed_97 ?_
      refine lv_iload_n hx hb d_Facts_changed_100 rfl (lv_at hl 3 rfl) ?_
      refine va_lald hx hb hK hP 6 4 rfl rfl hx1 d_Facts_changed_101 ?_
      exact fg_retl () hx hb hr hlocks (by unfold fx_Facts_changed_r; (repeat rw [if_neg c_1]); (repeat rw [if_neg c_2]); first | done | rfl | contradiction) (hP.sub (ws' := [(h0, .inr (3, [.ref b1, .ref b2, .ref b3, .ref b4, .ref b5, .ref b6, .ref b7])), (b2, .inl (d2, 2000, .inl e2)), (b3, .inl (d3, 2000, .inl e3)), (b4, .inl (d4, 2000, .inl e4)), (b5, .inl (d5, 2000, .inr (.inl e5))), (h1, .inr (2, [.ref hs, .ref hi, .ref hm, .int (nI n), .int cf1, .int o, .int ct1, .int ct2, .int co1, .int cf2, .int cg1, .int cb1, .int cn1, .int cn2, .int cr1, .int cr2])), (hs, .inl (cs, 2000, .inr (.inl f)))]) [0, 1, 2, 3, 4, 5, 6] rfl) (hK.sub (tys' := []) [] rfl) (hD.sub (ws' := [(h0, .inr (3, [.ref b1, .ref b2, .ref b3, .ref b4, .ref b5, .ref b6, .ref b7])), (b2, .inl (d2, 2000, .inl e2)), (b3, .inl (d3, 2000, .inl e3)), (b4, .inl (d4, 2000, .inl e4)), (b5, .inl (d5, 2000, .inr (.inl e5))), (h1, .inr (2, [.ref hs, .ref hi, .ref hm, .int (nI n), .int cf1, .int o, .int ct1, .int ct2, .int co1, .int cf2, .int cg1, .int cb1, .int cn1, .int cn2, .int cr1, .int cr2])), (hs, .inl (cs, 2000, .inr (.inl f)))]) [0, 1, 2, 3, 4, 5, 6] (by decide) rfl) hS (Nat.le_of_ble_eq_true rfl) (Nat.le_of_ble_eq_true rfl) d_Facts_changed_102
    · refine lv_aload_n hx hb d_Facts_changed_60 rfl (lv_at hl 1 rfl) ?_
      refine va_get (D := D) (ci := 3) (v := .ref b4) (C := "FilterGuard$Facts") (T := F_Facts) (N := 7) hx hb hts i_Facts hown hK hP 0 rfl rfl 3 (by decide) (hts _ u_321) (fun _ h9 => h9) rfl d_Facts_changed_61 ?_
      refine lv_iload_n hx hb d_Facts_changed_64 rfl (lv_at hl 3 rfl) ?_
      refine va_iald hx hb hK hP 3 2 rfl rfl hx1 d_Facts_changed_65 ?_
      refine lv_iconst (v := 1) hx hb d_Facts_changed_66 (by decide) ?_
      refine lv_icmp_ne (tgt := 96) hx hb d_Facts_changed_67 (by decide) (fun c_3 => ?_) (fun c_3 => ?_)
      · refine lv_aload_n hx hb d_Facts_changed_96 rfl (lv_at hl 2 rfl) ?_
        refine va_get (D := D) (ci := 2) (v := .ref hs) (C := "FilterGuard$Code") (T := F_Code) (N := 16) hx hb hts i_Code hown hK hP 5 rfl rfl 0 (by decide) (hts _ u_221) (fun _ h9 => h9) rfl d_Facts_changed_97 ?_
        refine lv_iload_n hx hb d_Facts_changed_100 rfl (lv_at hl 3 rfl) ?_
        refine va_lald hx hb hK hP 6 4 rfl rfl hx1 d_Facts_changed_101 ?_
        exact fg_retl () hx hb hr hlocks (by unfold fx_Facts_changed_r; (repeat rw [if_neg c_1]); (repeat rw [if_pos c_2]); (repeat rw [if_neg c_3]); first | done | rfl | contradiction) (hP.sub (ws' := [(h0, .inr (3, [.ref b1, .ref b2, .ref b3, .ref b4, .ref b5, .ref b6, .ref b7])), (b2, .inl (d2, 2000, .inl e2)), (b3, .inl (d3, 2000, .inl e3)), (b4, .inl (d4, 2000, .inl e4)), (b5, .inl (d5, 2000, .inr (.inl e5))), (h1, .inr (2, [.ref hs, .ref hi, .ref hm, .int (nI n), .int cf1, .int o, .int ct1, .int ct2, .int co1, .int cf2, .int cg1, .int cb1, .int cn1, .int cn2, .int cr1, .int cr2])), (hs, .inl (cs, 2000, .inr (.inl f)))]) [0, 1, 2, 3, 4, 5, 6] rfl) (hK.sub (tys' := []) [] rfl) (hD.sub (ws' := [(h0, .inr (3, [.ref b1, .ref b2, .ref b3, .ref b4, .ref b5, .ref b6, .ref b7])), (b2, .inl (d2, 2000, .inl e2)), (b3, .inl (d3, 2000, .inl e3)), (b4, .inl (d4, 2000, .inl e4)), (b5, .inl (d5, 2000, .inr (.inl e5))), (h1, .inr (2, [.ref hs, .ref hi, .ref hm, .int (nI n), .int cf1, .int o, .int ct1, .int ct2, .int co1, .int cf2, .int cg1, .int cb1, .int cn1, .int cn2, .int cr1, .int cr2])), (hs, .inl (cs, 2000, .inr (.inl f)))]) [0, 1, 2, 3, 4, 5, 6] (by decide) rfl) hS (Nat.le_of_ble_eq_true rfl) (Nat.le_of_ble_eq_true rfl) d_Facts_changed_102
      · refine lv_lload_n hx hb d_Facts_changed_70 rfl (lv_at hl 0 rfl) ?_
        refine lv_lload_n hx hb d_Facts_changed_71 rfl (lv_at hl 0 rfl) ?_
        refine lv_l2i (v := (e5 x1.toNatClampNeg).toInt32) hx hb d_Facts_changed_72 rfl ?_
        refine lv_i2l (v := ((e5 x1.toNatClampNeg).toInt32).toInt64) hx hb d_Facts_changed_73 rfl ?_
        refine W.lcmp hx hb d_Facts_changed_74 ?_
        refine lv_if_ne (tgt := 96) hx hb d_Facts_changed_75 (by decide) (fun c_4 => ?_) (fun c_4 => ?_)
        · have gc_4 : ¬ (e5 x1.toNatClampNeg) = (((e5 x1.toNatClampNeg).toInt32).toInt64) := fun z => c_4 ((lg_cmp_eq _ _).mpr z)
          refine lv_aload_n hx hb d_Facts_changed_96 rfl (lv_at hl 2 rfl) ?_
          refine va_get (D := D) (ci := 2) (v := .ref hs) (C := "FilterGuard$Code") (T := F_Code) (N := 16) hx hb hts i_Code hown hK hP 5 rfl rfl 0 (by decide) (hts _ u_221) (fun _ h9 => h9) rfl d_Facts_changed_97 ?_
          refine lv_iload_n hx hb d_Facts_changed_100 rfl (lv_at hl 3 rfl) ?_
          refine va_lald hx hb hK hP 6 4 rfl rfl hx1 d_Facts_changed_101 ?_
          exact fg_retl () hx hb hr hlocks (by unfold fx_Facts_changed_r; (repeat rw [if_neg c_1]); (repeat rw [if_pos c_2]); (repeat rw [if_pos c_3]); (repeat rw [if_neg gc_4]); first | done | rfl | contradiction) (hP.sub (ws' := [(h0, .inr (3, [.ref b1, .ref b2, .ref b3, .ref b4, .ref b5, .ref b6, .ref b7])), (b2, .inl (d2, 2000, .inl e2)), (b3, .inl (d3, 2000, .inl e3)), (b4, .inl (d4, 2000, .inl e4)), (b5, .inl (d5, 2000, .inr (.inl e5))), (h1, .inr (2, [.ref hs, .ref hi, .ref hm, .int (nI n), .int cf1, .int o, .int ct1, .int ct2, .int co1, .int cf2, .int cg1, .int cb1, .int cn1, .int cn2, .int cr1, .int cr2])), (hs, .inl (cs, 2000, .inr (.inl f)))]) [0, 1, 2, 3, 4, 5, 6] rfl) (hK.sub (tys' := []) [] rfl) (hD.sub (ws' := [(h0, .inr (3, [.ref b1, .ref b2, .ref b3, .ref b4, .ref b5, .ref b6, .ref b7])), (b2, .inl (d2, 2000, .inl e2)), (b3, .inl (d3, 2000, .inl e3)), (b4, .inl (d4, 2000, .inl e4)), (b5, .inl (d5, 2000, .inr (.inl e5))), (h1, .inr (2, [.ref hs, .ref hi, .ref hm, .int (nI n), .int cf1, .int o, .int ct1, .int ct2, .int co1, .int cf2, .int cg1, .int cb1, .int cn1, .int cn2, .int cr1, .int cr2])), (hs, .inl (cs, 2000, .inr (.inl f)))]) [0, 1, 2, 3, 4, 5, 6] (by decide) rfl) hS (Nat.le_of_ble_eq_true rfl) (Nat.le_of_ble_eq_true rfl) d_Facts_changed_102
        · have gc_4 : (e5 x1.toNatClampNeg) = (((e5 x1.toNatClampNeg).toInt32).toInt64) := (lg_cmp_eq _ _).mp c_4
          refine lv_ldc2 hx hb hown (hts _ u_1462) d_Facts_changed_78 ?_
          refine lv_aload_n hx hb d_Facts_changed_81 rfl (lv_at hl 2 rfl) ?_
          refine va_get (D := D) (ci := 2) (v := .int ct1) (C := "FilterGuard$Code") (T := F_Code) (N := 16) hx hb hts i_Code hown hK hP 5 rfl rfl 6 (by decide) (hts _ u_236) (fun _ h9 => h9) rfl d_Facts_changed_82 ?_
          refine lv_i2l (v := ct1.toInt64) hx hb d_Facts_changed_85 rfl ?_
          refine lv_bipush (v := 8) hx hb d_Facts_changed_86 (by decide) ?_
          refine lv_lshl (v := ct1.toInt64 <<< ((8 : Int32).toInt64 &&& 63)) hx hb d_Facts_changed_88 rfl ?_
          refine lv_lor hx hb d_Facts_changed_89 ?_
          refine lv_lload_n hx hb d_Facts_changed_90 rfl (lv_at hl 0 rfl) ?_
          refine lv_bipush (v := 32) hx hb d_Facts_changed_91 (by decide) ?_
          refine lv_lshl (v := (e5 x1.toNatClampNeg) <<< ((32 : Int32).toInt64 &&& 63)) hx hb d_Facts_changed_93 rfl ?_
          refine lv_lor hx hb d_Facts_changed_94 ?_
          exact fg_retl () hx hb hr hlocks (by unfold fx_Facts_changed_r; (repeat rw [if_neg c_1]); (repeat rw [if_pos c_2]); (repeat rw [if_pos c_3]); (repeat rw [if_pos gc_4]); first | done | rfl | contradiction) (hP.sub (ws' := [(h0, .inr (3, [.ref b1, .ref b2, .ref b3, .ref b4, .ref b5, .ref b6, .ref b7])), (b2, .inl (d2, 2000, .inl e2)), (b3, .inl (d3, 2000, .inl e3)), (b4, .inl (d4, 2000, .inl e4)), (b5, .inl (d5, 2000, .inr (.inl e5))), (h1, .inr (2, [.ref hs, .ref hi, .ref hm, .int (nI n), .int cf1, .int o, .int ct1, .int ct2, .int co1, .int cf2, .int cg1, .int cb1, .int cn1, .int cn2, .int cr1, .int cr2])), (hs, .inl (cs, 2000, .inr (.inl f)))]) [0, 1, 2, 3, 4, 5, 6] rfl) (hK.sub (tys' := []) [] rfl) (hD.sub (ws' := [(h0, .inr (3, [.ref b1, .ref b2, .ref b3, .ref b4, .ref b5, .ref b6, .ref b7])), (b2, .inl (d2, 2000, .inl e2)), (b3, .inl (d3, 2000, .inl e3)), (b4, .inl (d4, 2000, .inl e4)), (b5, .inl (d5, 2000, .inr (.inl e5))), (h1, .inr (2, [.ref hs, .ref hi, .ref hm, .int (nI n), .int cf1, .int o, .int ct1, .int ct2, .int co1, .int cf2, .int cg1, .int cb1, .int cn1, .int cn2, .int cr1, .int cr2])), (hs, .inl (cs, 2000, .inr (.inl f)))]) [0, 1, 2, 3, 4, 5, 6] (by decide) rfl) hS (Nat.le_of_ble_eq_true rfl) (Nat.le_of_ble_eq_true rfl) d_Facts_changed_95
  · refine lv_aload_n hx hb d_Facts_changed_9 rfl (lv_at hl 0 rfl) ?_
    refine va_get (D := D) (ci := 3) (v := .ref b2) (C := "FilterGuard$Facts") (T := F_Facts) (N := 7) hx hb hts i_Facts hown hK hP 0 rfl rfl 1 (by decide) (hts _ u_319) (fun _ h9 => h9) rfl d_Facts_changed_10 ?_
    refine lv_iload_n hx hb d_Facts_changed_13 rfl (lv_at hl 2 rfl) ?_
    refine va_zald hx hb hK hP 1 0 rfl rfl hx1 d_Facts_changed_14 ?_
    refine lv_if_eq (tgt := 44) hx hb d_Facts_changed_15 (by decide) (fun c_5 => ?_) (fun c_5 => ?_)
    · refine lv_aload_n hx hb d_Facts_changed_44 rfl (lv_at hl 0 rfl) ?_
      refine va_get (D := D) (ci := 3) (v := .ref b5) (C := "FilterGuard$Facts") (T := F_Facts) (N := 7) hx hb hts i_Facts hown hK hP 0 rfl rfl 4 (by decide) (hts _ u_322) (fun _ h9 => h9) rfl d_Facts_changed_45 ?_
      refine lv_iload_n hx hb d_Facts_changed_48 rfl (lv_at hl 2 rfl) ?_
      refine va_lald hx hb hK hP 4 3 rfl rfl hx1 d_Facts_changed_49 ?_
      refine lv_lstore_n (lv' := [(3, .long (e5 x1.toNatClampNeg)), (0, .ref h0), (1, .ref h1), (2, .int x1)]) hx hb d_Facts_changed_50 rfl hl (by decide) rfl (fun ls hl => ?_)
      refine lv_aload_n hx hb d_Facts_changed_51 rfl (lv_at hl 2 rfl) ?_
      refine va_get (D := D) (ci := 2) (v := .int cg1) (C := "FilterGuard$Code") (T := F_Code) (N := 16) hx hb hts i_Code hown hK hP 5 rfl rfl 10 (by decide) (hts _ u_255) (fun _ h9 => h9) rfl d_Facts_changed_52 ?_
      refine lv_bipush (v := 6) hx hb d_Facts_changed_55 (by decide) ?_
      have gk_7 : ¬ cg1 = 6 := (fun z9 => absurd (c_1.symm.trans z9) (by decide))
      refine lv_icmp_ne (tgt := 96) hx hb d_Facts_changed_57 (by decide) (fun c_6 => ?_) (fun c_6 => absurd c_6 gk_7)
      refine lv_aload_n hx hb d_Facts_changed_96 rfl (lv_at hl 2 rfl) ?_
      refine va_get (D := D) (ci := 2) (v := .ref hs) (C := "FilterGuard$Code") (T := F_Code) (N := 16) hx hb hts i_Code hown hK hP 5 rfl rfl 0 (by decide) (hts _ u_221) (fun _ h9 => h9) rfl d_Facts_changed_97 ?_
      refine lv_iload_n hx hb d_Facts_changed_100 rfl (lv_at hl 3 rfl) ?_
      refine va_lald hx hb hK hP 6 4 rfl rfl hx1 d_Facts_changed_101 ?_
      exact fg_retl () hx hb hr hlocks (by unfold fx_Facts_changed_r; (repeat rw [if_pos c_1]); (repeat rw [if_pos c_5]); (repeat rw [if_neg gk_7]); first | done | rfl | contradiction) (hP.sub (ws' := [(h0, .inr (3, [.ref b1, .ref b2, .ref b3, .ref b4, .ref b5, .ref b6, .ref b7])), (b2, .inl (d2, 2000, .inl e2)), (b3, .inl (d3, 2000, .inl e3)), (b4, .inl (d4, 2000, .inl e4)), (b5, .inl (d5, 2000, .inr (.inl e5))), (h1, .inr (2, [.ref hs, .ref hi, .ref hm, .int (nI n), .int cf1, .int o, .int ct1, .int ct2, .int co1, .int cf2, .int cg1, .int cb1, .int cn1, .int cn2, .int cr1, .int cr2])), (hs, .inl (cs, 2000, .inr (.inl f)))]) [0, 1, 2, 3, 4, 5, 6] rfl) (hK.sub (tys' := []) [] rfl) (hD.sub (ws' := [(h0, .inr (3, [.ref b1, .ref b2, .ref b3, .ref b4, .ref b5, .ref b6, .ref b7])), (b2, .inl (d2, 2000, .inl e2)), (b3, .inl (d3, 2000, .inl e3)), (b4, .inl (d4, 2000, .inl e4)), (b5, .inl (d5, 2000, .inr (.inl e5))), (h1, .inr (2, [.ref hs, .ref hi, .ref hm, .int (nI n), .int cf1, .int o, .int ct1, .int ct2, .int co1, .int cf2, .int cg1, .int cb1, .int cn1, .int cn2, .int cr1, .int cr2])), (hs, .inl (cs, 2000, .inr (.inl f)))]) [0, 1, 2, 3, 4, 5, 6] (by decide) rfl) hS (Nat.le_of_ble_eq_true rfl) (Nat.le_of_ble_eq_true rfl) d_Facts_changed_102
    · refine lv_aload_n hx hb d_Facts_changed_18 rfl (lv_at hl 0 rfl) ?_
      refine va_get (D := D) (ci := 3) (v := .ref b3) (C := "FilterGuard$Facts") (T := F_Facts) (N := 7) hx hb hts i_Facts hown hK hP 0 rfl rfl 2 (by decide) (hts _ u_320) (fun _ h9 => h9) rfl d_Facts_changed_19 ?_
      refine lv_iload_n hx hb d_Facts_changed_22 rfl (lv_at hl 2 rfl) ?_
      refine va_zald hx hb hK hP 2 1 rfl rfl hx1 d_Facts_changed_23 ?_
      refine lv_if_ne (tgt := 44) hx hb d_Facts_changed_24 (by decide) (fun c_8 => ?_) (fun c_8 => ?_)
      · refine lv_aload_n hx hb d_Facts_changed_44 rfl (lv_at hl 0 rfl) ?_
        refine va_get (D := D) (ci := 3) (v := .ref b5) (C := "FilterGuard$Facts") (T := F_Facts) (N := 7) hx hb hts i_Facts hown hK hP 0 rfl rfl 4 (by decide) (hts _ u_322) (fun _ h9 => h9) rfl d_Facts_changed_45 ?_
        refine lv_iload_n hx hb d_Facts_changed_48 rfl (lv_at hl 2 rfl) ?_
        refine va_lald hx hb hK hP 4 3 rfl rfl hx1 d_Facts_changed_49 ?_
        refine lv_lstore_n (lv' := [(3, .long (e5 x1.toNatClampNeg)), (0, .ref h0), (1, .ref h1), (2, .int x1)]) hx hb d_Facts_changed_50 rfl hl (by decide) rfl (fun ls hl => ?_)
        refine lv_aload_n hx hb d_Facts_changed_51 rfl (lv_at hl 2 rfl) ?_
        refine va_get (D := D) (ci := 2) (v := .int cg1) (C := "FilterGuard$Code") (T := F_Code) (N := 16) hx hb hts i_Code hown hK hP 5 rfl rfl 10 (by decide) (hts _ u_255) (fun _ h9 => h9) rfl d_Facts_changed_52 ?_
        refine lv_bipush (v := 6) hx hb d_Facts_changed_55 (by decide) ?_
        have gk_10 : ¬ cg1 = 6 := (fun z9 => absurd (c_1.symm.trans z9) (by decide))
        refine lv_icmp_ne (tgt := 96) hx hb d_Facts_changed_57 (by decide) (fun c_9 => ?_) (fun c_9 => absurd c_9 gk_10)
        refine lv_aload_n hx hb d_Facts_changed_96 rfl (lv_at hl 2 rfl) ?_
        refine va_get (D := D) (ci := 2) (v := .ref hs) (C := "FilterGuard$Code") (T := F_Code) (N := 16) hx hb hts i_Code hown hK hP 5 rfl rfl 0 (by decide) (hts _ u_221) (fun _ h9 => h9) rfl d_Facts_changed_97 ?_
        refine lv_iload_n hx hb d_Facts_changed_100 rfl (lv_at hl 3 rfl) ?_
        refine va_lald hx hb hK hP 6 4 rfl rfl hx1 d_Facts_changed_101 ?_
        exact fg_retl () hx hb hr hlocks (by unfold fx_Facts_changed_r; (repeat rw [if_pos c_1]); (repeat rw [if_neg c_5]); (repeat rw [if_neg c_8]); (repeat rw [if_neg gk_10]); first | done | rfl | contradiction) (hP.sub (ws' := [(h0, .inr (3, [.ref b1, .ref b2, .ref b3, .ref b4, .ref b5, .ref b6, .ref b7])), (b2, .inl (d2, 2000, .inl e2)), (b3, .inl (d3, 2000, .inl e3)), (b4, .inl (d4, 2000, .inl e4)), (b5, .inl (d5, 2000, .inr (.inl e5))), (h1, .inr (2, [.ref hs, .ref hi, .ref hm, .int (nI n), .int cf1, .int o, .int ct1, .int ct2, .int co1, .int cf2, .int cg1, .int cb1, .int cn1, .int cn2, .int cr1, .int cr2])), (hs, .inl (cs, 2000, .inr (.inl f)))]) [0, 1, 2, 3, 4, 5, 6] rfl) (hK.sub (tys' := []) [] rfl) (hD.sub (ws' := [(h0, .inr (3, [.ref b1, .ref b2, .ref b3, .ref b4, .ref b5, .ref b6, .ref b7])), (b2, .inl (d2, 2000, .inl e2)), (b3, .inl (d3, 2000, .inl e3)), (b4, .inl (d4, 2000, .inl e4)), (b5, .inl (d5, 2000, .inr (.inl e5))), (h1, .inr (2, [.ref hs, .ref hi, .ref hm, .int (nI n), .int cf1, .int o, .int ct1, .int ct2, .int co1, .int cf2, .int cg1, .int cb1, .int cn1, .int cn2, .int cr1, .int cr2])), (hs, .inl (cs, 2000, .inr (.inl f)))]) [0, 1, 2, 3, 4, 5, 6] (by decide) rfl) hS (Nat.le_of_ble_eq_true rfl) (Nat.le_of_ble_eq_true rfl) d_Facts_changed_102
      · refine lv_ldc2 hx hb hown (hts _ u_1460) d_Facts_changed_27 ?_
        refine lv_aload_n hx hb d_Facts_changed_30 rfl (lv_at hl 1 rfl) ?_
        refine va_get (D := D) (ci := 2) (v := .int co1) (C := "FilterGuard$Code") (T := F_Code) (N := 16) hx hb hts i_Code hown hK hP 5 rfl rfl 8 (by decide) (hts _ u_243) (fun _ h9 => h9) rfl d_Facts_changed_31 ?_
        refine lv_i2l (v := co1.toInt64) hx hb d_Facts_changed_34 rfl ?_
        refine lv_ldc2 hx hb hown (hts _ u_1461) d_Facts_changed_35 ?_
        refine lv_land hx hb d_Facts_changed_38 ?_
        refine lv_bipush (v := 16) hx hb d_Facts_changed_39 (by decide) ?_
        refine lv_lshl (v := (co1.toInt64 &&& 65535) <<< ((16 : Int32).toInt64 &&& 63)) hx hb d_Facts_changed_41 rfl ?_
        refine lv_lor hx hb d_Facts_changed_42 ?_
        exact fg_retl () hx hb hr hlocks (by unfold fx_Facts_changed_r; (repeat rw [if_pos c_1]); (repeat rw [if_neg c_5]); (repeat rw [if_pos c_8]); first | done | rfl | contradiction) (hP.sub (ws' := [(h0, .inr (3, [.ref b1, .ref b2, .ref b3, .ref b4, .ref b5, .ref b6, .ref b7])), (b2, .inl (d2, 2000, .inl e2)), (b3, .inl (d3, 2000, .inl e3)), (b4, .inl (d4, 2000, .inl e4)), (b5, .inl (d5, 2000, .inr (.inl e5))), (h1, .inr (2, [.ref hs, .ref hi, .ref hm, .int (nI n), .int cf1, .int o, .int ct1, .int ct2, .int co1, .int cf2, .int cg1, .int cb1, .int cn1, .int cn2, .int cr1, .int cr2])), (hs, .inl (cs, 2000, .inr (.inl f)))]) [0, 1, 2, 3, 4, 5, 6] rfl) (hK.sub (tys' := []) [] rfl) (hD.sub (ws' := [(h0, .inr (3, [.ref b1, .ref b2, .ref b3, .ref b4, .ref b5, .ref b6, .ref b7])), (b2, .inl (d2, 2000, .inl e2)), (b3, .inl (d3, 2000, .inl e3)), (b4, .inl (d4, 2000, .inl e4)), (b5, .inl (d5, 2000, .inr (.inl e5))), (h1, .inr (2, [.ref hs, .ref hi, .ref hm, .int (nI n), .int cf1, .int o, .int ct1, .int ct2, .int co1, .int cf2, .int cg1, .int cb1, .int cn1, .int cn2, .int cr1, .int cr2])), (hs, .inl (cs, 2000, .inr (.inl f)))]) [0, 1, 2, 3, 4, 5, 6] (by decide) rfl) hS (Nat.le_of_ble_eq_true rfl) (Nat.le_of_ble_eq_true rfl) d_Facts_changed_43
