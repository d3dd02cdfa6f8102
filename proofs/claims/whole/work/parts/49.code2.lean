abbrev y_Code_bytesAt : MethodName := ⟨"FilterGuard$Code", "bytesAt", "(I)I"⟩
theorem d_Code_bytesAt_0 : decode prog_4_method_7_code 0 = .ok (.iconst 1, 1) := by decide +kernel
theorem d_Code_bytesAt_1 : decode prog_4_method_7_code 1 = .ok (.aload_n 0, 1) := by decide +kernel
theorem d_Code_bytesAt_2 : decode prog_4_method_7_code 2 = .ok (.getfield 48, 3) := by decide +kernel
theorem d_Code_bytesAt_5 : decode prog_4_method_7_code 5 = .ok (.ishl, 1) := by decide +kernel
theorem d_Code_bytesAt_6 : decode prog_4_method_7_code 6 = .ok (.iconst 1, 1) := by decide +kernel
theorem d_Code_bytesAt_7 : decode prog_4_method_7_code 7 = .ok (.isub, 1) := by decide +kernel
theorem d_Code_bytesAt_8 : decode prog_4_method_7_code 8 = .ok (.iload_n 1, 1) := by decide +kernel
theorem d_Code_bytesAt_9 : decode prog_4_method_7_code 9 = .ok (.bipush 7, 2) := by decide +kernel
theorem d_Code_bytesAt_11 : decode prog_4_method_7_code 11 = .ok (.iand, 1) := by decide +kernel
theorem d_Code_bytesAt_12 : decode prog_4_method_7_code 12 = .ok (.ishl, 1) := by decide +kernel
theorem d_Code_bytesAt_13 : decode prog_4_method_7_code 13 = .ok (.ireturn, 1) := by decide +kernel
abbrev y_Code_fieldNumber : MethodName := ⟨"FilterGuard$Code", "fieldNumber", "()J"⟩
theorem d_Code_fieldNumber_0 : decode prog_4_method_8_code 0 = .ok (.aload_n 0, 1) := by decide +kernel
theorem d_Code_fieldNumber_1 : decode prog_4_method_8_code 1 = .ok (.getfield 58, 3) := by decide +kernel
theorem d_Code_fieldNumber_4 : decode prog_4_method_8_code 4 = .ok (.bipush 14, 2) := by decide +kernel
theorem d_Code_fieldNumber_6 : decode prog_4_method_8_code 6 = .ok (.if_icmp .eq 12, 3) := by decide +kernel
theorem d_Code_fieldNumber_18 : decode prog_4_method_8_code 18 = .ok (.aload_n 0, 1) := by decide +kernel
theorem d_Code_fieldNumber_19 : decode prog_4_method_8_code 19 = .ok (.getfield 41, 3) := by decide +kernel
theorem d_Code_fieldNumber_22 : decode prog_4_method_8_code 22 = .ok (.bipush 8, 2) := by decide +kernel
theorem d_Code_fieldNumber_24 : decode prog_4_method_8_code 24 = .ok (.idiv, 1) := by decide +kernel
theorem d_Code_fieldNumber_25 : decode prog_4_method_8_code 25 = .ok (.i2l, 1) := by decide +kernel
theorem d_Code_fieldNumber_26 : decode prog_4_method_8_code 26 = .ok (.goto 8, 3) := by decide +kernel
theorem d_Code_fieldNumber_34 : decode prog_4_method_8_code 34 = .ok (.lreturn, 1) := by decide +kernel
theorem d_Code_fieldNumber_9 : decode prog_4_method_8_code 9 = .ok (.aload_n 0, 1) := by decide +kernel
theorem d_Code_fieldNumber_10 : decode prog_4_method_8_code 10 = .ok (.getfield 58, 3) := by decide +kernel
theorem d_Code_fieldNumber_13 : decode prog_4_method_8_code 13 = .ok (.bipush 13, 2) := by decide +kernel
theorem d_Code_fieldNumber_15 : decode prog_4_method_8_code 15 = .ok (.if_icmp .ne 14, 3) := by decide +kernel
theorem d_Code_fieldNumber_29 : decode prog_4_method_8_code 29 = .ok (.aload_n 0, 1) := by decide +kernel
theorem d_Code_fieldNumber_30 : decode prog_4_method_8_code 30 = .ok (.getfield 41, 3) := by decide +kernel
theorem d_Code_fieldNumber_33 : decode prog_4_method_8_code 33 = .ok (.i2l, 1) := by decide +kernel
abbrev y_Code_wideNumber : MethodName := ⟨"FilterGuard$Code", "wideNumber", "(I)J"⟩
theorem d_Code_wideNumber_0 : decode prog_4_method_9_code 0 = .ok (.iload_n 1, 1) := by decide +kernel
theorem d_Code_wideNumber_1 : decode prog_4_method_9_code 1 = .ok (.iconst 1, 1) := by decide +kernel
theorem d_Code_wideNumber_2 : decode prog_4_method_9_code 2 = .ok (.iadd, 1) := by decide +kernel
theorem d_Code_wideNumber_3 : decode prog_4_method_9_code 3 = .ok (.aload_n 0, 1) := by decide +kernel
theorem d_Code_wideNumber_4 : decode prog_4_method_9_code 4 = .ok (.getfield 22, 3) := by decide +kernel
theorem d_Code_wideNumber_7 : decode prog_4_method_9_code 7 = .ok (.if_icmp .ge 18, 3) := by decide +kernel
theorem d_Code_wideNumber_25 : decode prog_4_method_9_code 25 = .ok (.lconst 0, 1) := by decide +kernel
theorem d_Code_wideNumber_26 : decode prog_4_method_9_code 26 = .ok (.lstore_n 2, 1) := by decide +kernel
theorem d_Code_wideNumber_27 : decode prog_4_method_9_code 27 = .ok (.lload_n 2, 1) := by decide +kernel
theorem d_Code_wideNumber_28 : decode prog_4_method_9_code 28 = .ok (.aload_n 0, 1) := by decide +kernel
theorem d_Code_wideNumber_29 : decode prog_4_method_9_code 29 = .ok (.getfield 41, 3) := by decide +kernel
theorem d_Code_wideNumber_32 : decode prog_4_method_9_code 32 = .ok (.i2l, 1) := by decide +kernel
theorem d_Code_wideNumber_33 : decode prog_4_method_9_code 33 = .ok (.ldc2_w 86, 3) := by decide +kernel
theorem u_987 : Cond.constantLong "FilterGuard$Code" 86 4294967295 ∈ fg_g := fg_in (List.mem_of_getElem? (i := 987) (by decide +kernel)) rfl
theorem d_Code_wideNumber_36 : decode prog_4_method_9_code 36 = .ok (.land, 1) := by decide +kernel
theorem d_Code_wideNumber_37 : decode prog_4_method_9_code 37 = .ok (.lor, 1) := by decide +kernel
theorem d_Code_wideNumber_38 : decode prog_4_method_9_code 38 = .ok (.lreturn, 1) := by decide +kernel
theorem d_Code_wideNumber_10 : decode prog_4_method_9_code 10 = .ok (.aload_n 0, 1) := by decide +kernel
theorem d_Code_wideNumber_11 : decode prog_4_method_9_code 11 = .ok (.getfield 9, 3) := by decide +kernel
theorem d_Code_wideNumber_14 : decode prog_4_method_9_code 14 = .ok (.iload_n 1, 1) := by decide +kernel
theorem d_Code_wideNumber_15 : decode prog_4_method_9_code 15 = .ok (.iconst 1, 1) := by decide +kernel
theorem d_Code_wideNumber_16 : decode prog_4_method_9_code 16 = .ok (.iadd, 1) := by decide +kernel
theorem d_Code_wideNumber_17 : decode prog_4_method_9_code 17 = .ok (.laload, 1) := by decide +kernel
theorem d_Code_wideNumber_18 : decode prog_4_method_9_code 18 = .ok (.ldc2_w 84, 3) := by decide +kernel
theorem u_1103 : Cond.constantLong "FilterGuard$Code" 84 (-4294967296) ∈ fg_g := fg_in (List.mem_of_getElem? (i := 1103) (by decide +kernel)) rfl
theorem d_Code_wideNumber_21 : decode prog_4_method_9_code 21 = .ok (.land, 1) := by decide +kernel
theorem d_Code_wideNumber_22 : decode prog_4_method_9_code 22 = .ok (.goto 4, 3) := by decide +kernel
abbrev y_Code_behind : MethodName := ⟨"FilterGuard$Code", "behind", "(I)I"⟩
theorem d_Code_behind_0 : decode prog_4_method_10_code 0 = .ok (.iload_n 1, 1) := by decide +kernel
theorem d_Code_behind_1 : decode prog_4_method_10_code 1 = .ok (.aload_n 0, 1) := by decide +kernel
theorem d_Code_behind_2 : decode prog_4_method_10_code 2 = .ok (.getfield 55, 3) := by decide +kernel
theorem d_Code_behind_5 : decode prog_4_method_10_code 5 = .ok (.iconst 1, 1) := by decide +kernel
theorem d_Code_behind_6 : decode prog_4_method_10_code 6 = .ok (.if_icmp .ne 7, 3) := by decide +kernel
theorem d_Code_behind_13 : decode prog_4_method_10_code 13 = .ok (.iconst 1, 1) := by decide +kernel
theorem d_Code_behind_14 : decode prog_4_method_10_code 14 = .ok (.iadd, 1) := by decide +kernel
theorem d_Code_behind_15 : decode prog_4_method_10_code 15 = .ok (.ireturn, 1) := by decide +kernel
theorem d_Code_behind_9 : decode prog_4_method_10_code 9 = .ok (.iconst 2, 1) := by decide +kernel
theorem d_Code_behind_10 : decode prog_4_method_10_code 10 = .ok (.goto 4, 3) := by decide +kernel
abbrev y_Code_target : MethodName := ⟨"FilterGuard$Code", "target", "(I)I"⟩
theorem d_Code_target_0 : decode prog_4_method_11_code 0 = .ok (.iload_n 1, 1) := by decide +kernel
theorem d_Code_target_1 : decode prog_4_method_11_code 1 = .ok (.iconst 1, 1) := by decide +kernel
theorem d_Code_target_2 : decode prog_4_method_11_code 2 = .ok (.iadd, 1) := by decide +kernel
theorem d_Code_target_3 : decode prog_4_method_11_code 3 = .ok (.aload_n 0, 1) := by decide +kernel
theorem d_Code_target_4 : decode prog_4_method_11_code 4 = .ok (.getfield 38, 3) := by decide +kernel
theorem d_Code_target_7 : decode prog_4_method_11_code 7 = .ok (.iadd, 1) := by decide +kernel
theorem d_Code_target_8 : decode prog_4_method_11_code 8 = .ok (.ireturn, 1) := by decide +kernel
abbrev y_Code_isMarkAt : MethodName := ⟨"FilterGuard$Code", "isMarkAt", "(I)Z"⟩
theorem d_Code_isMarkAt_0 : decode prog_4_method_12_code 0 = .ok (.iload_n 1, 1) := by decide +kernel
theorem d_Code_isMarkAt_1 : decode prog_4_method_12_code 1 = .ok (.ifCond .lt 24, 3) := by decide +kernel
theorem d_Code_isMarkAt_25 : decode prog_4_method_12_code 25 = .ok (.iconst 0, 1) := by decide +kernel
theorem d_Code_isMarkAt_26 : decode prog_4_method_12_code 26 = .ok (.ireturn, 1) := by decide +kernel
theorem d_Code_isMarkAt_4 : decode prog_4_method_12_code 4 = .ok (.iload_n 1, 1) := by decide +kernel
theorem d_Code_isMarkAt_5 : decode prog_4_method_12_code 5 = .ok (.aload_n 0, 1) := by decide +kernel
theorem d_Code_isMarkAt_6 : decode prog_4_method_12_code 6 = .ok (.getfield 22, 3) := by decide +kernel
theorem d_Code_isMarkAt_9 : decode prog_4_method_12_code 9 = .ok (.if_icmp .ge 16, 3) := by decide +kernel
theorem d_Code_isMarkAt_12 : decode prog_4_method_12_code 12 = .ok (.aload_n 0, 1) := by decide +kernel
theorem d_Code_isMarkAt_13 : decode prog_4_method_12_code 13 = .ok (.getfield 19, 3) := by decide +kernel
theorem d_Code_isMarkAt_16 : decode prog_4_method_12_code 16 = .ok (.iload_n 1, 1) := by decide +kernel
theorem d_Code_isMarkAt_17 : decode prog_4_method_12_code 17 = .ok (.baload, 1) := by decide +kernel
theorem d_Code_isMarkAt_18 : decode prog_4_method_12_code 18 = .ok (.ifCond .eq 7, 3) := by decide +kernel
theorem d_Code_isMarkAt_21 : decode prog_4_method_12_code 21 = .ok (.iconst 1, 1) := by decide +kernel
theorem d_Code_isMarkAt_22 : decode prog_4_method_12_code 22 = .ok (.goto 4, 3) := by decide +kernel
abbrev y_Code_isJump : MethodName := ⟨"FilterGuard$Code", "isJump", "()Z"⟩
theorem d_Code_isJump_0 : decode prog_4_method_13_code 0 = .ok (.aload_n 0, 1) := by decide +kernel
theorem d_Code_isJump_1 : decode prog_4_method_13_code 1 = .ok (.getfield 55, 3) := by decide +kernel
theorem d_Code_isJump_4 : decode prog_4_method_13_code 4 = .ok (.bipush 7, 2) := by decide +kernel
theorem d_Code_isJump_6 : decode prog_4_method_13_code 6 = .ok (.if_icmp .eq 12, 3) := by decide +kernel
theorem d_Code_isJump_18 : decode prog_4_method_13_code 18 = .ok (.iconst 1, 1) := by decide +kernel
theorem d_Code_isJump_19 : decode prog_4_method_13_code 19 = .ok (.goto 4, 3) := by decide +kernel
theorem d_Code_isJump_23 : decode prog_4_method_13_code 23 = .ok (.ireturn, 1) := by decide +kernel
theorem d_Code_isJump_9 : decode prog_4_method_13_code 9 = .ok (.aload_n 0, 1) := by decide +kernel
theorem d_Code_isJump_10 : decode prog_4_method_13_code 10 = .ok (.getfield 55, 3) := by decide +kernel
theorem d_Code_isJump_13 : decode prog_4_method_13_code 13 = .ok (.bipush 8, 2) := by decide +kernel
theorem d_Code_isJump_15 : decode prog_4_method_13_code 15 = .ok (.if_icmp .ne 7, 3) := by decide +kernel
theorem d_Code_isJump_22 : decode prog_4_method_13_code 22 = .ok (.iconst 0, 1) := by decide +kernel
abbrev y_Code_isOneOperand : MethodName := ⟨"FilterGuard$Code", "isOneOperand", "()Z"⟩
theorem d_Code_isOneOperand_0 : decode prog_4_method_19_code 0 = .ok (.aload_n 0, 1) := by decide +kernel
theorem d_Code_isOneOperand_1 : decode prog_4_method_19_code 1 = .ok (.getfield 68, 3) := by decide +kernel
theorem d_Code_isOneOperand_4 : decode prog_4_method_19_code 4 = .ok (.ifCond .eq 18, 3) := by decide +kernel
theorem d_Code_isOneOperand_22 : decode prog_4_method_19_code 22 = .ok (.aload_n 0, 1) := by decide +kernel
theorem d_Code_isOneOperand_23 : decode prog_4_method_19_code 23 = .ok (.getfield 35, 3) := by decide +kernel
theorem d_Code_isOneOperand_26 : decode prog_4_method_19_code 26 = .ok (.ifCond .ne 7, 3) := by decide +kernel
theorem d_Code_isOneOperand_33 : decode prog_4_method_19_code 33 = .ok (.iconst 0, 1) := by decide +kernel
theorem d_Code_isOneOperand_34 : decode prog_4_method_19_code 34 = .ok (.ireturn, 1) := by decide +kernel
theorem d_Code_isOneOperand_29 : decode prog_4_method_19_code 29 = .ok (.iconst 1, 1) := by decide +kernel
theorem d_Code_isOneOperand_30 : decode prog_4_method_19_code 30 = .ok (.goto 4, 3) := by decide +kernel
theorem d_Code_isOneOperand_7 : decode prog_4_method_19_code 7 = .ok (.aload_n 0, 1) := by decide +kernel
theorem d_Code_isOneOperand_8 : decode prog_4_method_19_code 8 = .ok (.getfield 41, 3) := by decide +kernel
theorem d_Code_isOneOperand_11 : decode prog_4_method_19_code 11 = .ok (.ifCond .ne 7, 3) := by decide +kernel
theorem d_Code_isOneOperand_18 : decode prog_4_method_19_code 18 = .ok (.iconst 0, 1) := by decide +kernel
theorem d_Code_isOneOperand_19 : decode prog_4_method_19_code 19 = .ok (.goto 15, 3) := by decide +kernel
theorem d_Code_isOneOperand_14 : decode prog_4_method_19_code 14 = .ok (.iconst 1, 1) := by decide +kernel
theorem d_Code_isOneOperand_15 : decode prog_4_method_19_code 15 = .ok (.goto 19, 3) := by decide +kernel
abbrev y_Code_isFieldShaped : MethodName := ⟨"FilterGuard$Code", "isFieldShaped", "()Z"⟩
theorem d_Code_isFieldShaped_0 : decode prog_4_method_20_code 0 = .ok (.aload_n 0, 1) := by decide +kernel
theorem d_Code_isFieldShaped_1 : decode prog_4_method_20_code 1 = .ok (.getfield 58, 3) := by decide +kernel
theorem d_Code_isFieldShaped_4 : decode prog_4_method_20_code 4 = .ok (.bipush 14, 2) := by decide +kernel
theorem d_Code_isFieldShaped_6 : decode prog_4_method_20_code 6 = .ok (.if_icmp .eq 12, 3) := by decide +kernel
theorem d_Code_isFieldShaped_18 : decode prog_4_method_20_code 18 = .ok (.aload_n 0, 1) := by decide +kernel
theorem d_Code_isFieldShaped_19 : decode prog_4_method_20_code 19 = .ok (.getfield 41, 3) := by decide +kernel
theorem d_Code_isFieldShaped_22 : decode prog_4_method_20_code 22 = .ok (.bipush 16, 2) := by decide +kernel
theorem d_Code_isFieldShaped_24 : decode prog_4_method_20_code 24 = .ok (.if_icmp .eq 21, 3) := by decide +kernel
theorem d_Code_isFieldShaped_45 : decode prog_4_method_20_code 45 = .ok (.iconst 1, 1) := by decide +kernel
theorem d_Code_isFieldShaped_46 : decode prog_4_method_20_code 46 = .ok (.goto 4, 3) := by decide +kernel
theorem d_Code_isFieldShaped_50 : decode prog_4_method_20_code 50 = .ok (.ireturn, 1) := by decide +kernel
theorem d_Code_isFieldShaped_27 : decode prog_4_method_20_code 27 = .ok (.aload_n 0, 1) := by decide +kernel
theorem d_Code_isFieldShaped_28 : decode prog_4_method_20_code 28 = .ok (.getfield 41, 3) := by decide +kernel
theorem d_Code_isFieldShaped_31 : decode prog_4_method_20_code 31 = .ok (.bipush 32, 2) := by decide +kernel
theorem d_Code_isFieldShaped_33 : decode prog_4_method_20_code 33 = .ok (.if_icmp .eq 12, 3) := by decide +kernel
theorem d_Code_isFieldShaped_36 : decode prog_4_method_20_code 36 = .ok (.aload_n 0, 1) := by decide +kernel
theorem d_Code_isFieldShaped_37 : decode prog_4_method_20_code 37 = .ok (.getfield 41, 3) := by decide +kernel
theorem d_Code_isFieldShaped_40 : decode prog_4_method_20_code 40 = .ok (.bipush 64, 2) := by decide +kernel
theorem d_Code_isFieldShaped_42 : decode prog_4_method_20_code 42 = .ok (.if_icmp .ne 7, 3) := by decide +kernel
theorem d_Code_isFieldShaped_49 : decode prog_4_method_20_code 49 = .ok (.iconst 0, 1) := by decide +kernel
theorem d_Code_isFieldShaped_9 : decode prog_4_method_20_code 9 = .ok (.aload_n 0, 1) := by decide +kernel
theorem d_Code_isFieldShaped_10 : decode prog_4_method_20_code 10 = .ok (.getfield 58, 3) := by decide +kernel
theorem d_Code_isFieldShaped_13 : decode prog_4_method_20_code 13 = .ok (.bipush 13, 2) := by decide +kernel
theorem d_Code_isFieldShaped_15 : decode prog_4_method_20_code 15 = .ok (.if_icmp .ne 36, 3) := by decide +kernel
theorem d_Code_isFieldShaped_51 : decode prog_4_method_20_code 51 = .ok (.aload_n 0, 1) := by decide +kernel
theorem d_Code_isFieldShaped_52 : decode prog_4_method_20_code 52 = .ok (.getfield 58, 3) := by decide +kernel
theorem d_Code_isFieldShaped_55 : decode prog_4_method_20_code 55 = .ok (.bipush 11, 2) := by decide +kernel
theorem d_Code_isFieldShaped_57 : decode prog_4_method_20_code 57 = .ok (.if_icmp .ne 10, 3) := by decide +kernel
theorem d_Code_isFieldShaped_67 : decode prog_4_method_20_code 67 = .ok (.iconst 1, 1) := by decide +kernel
theorem d_Code_isFieldShaped_68 : decode prog_4_method_20_code 68 = .ok (.goto 4, 3) := by decide +kernel
theorem d_Code_isFieldShaped_72 : decode prog_4_method_20_code 72 = .ok (.ireturn, 1) := by decide +kernel
theorem d_Code_isFieldShaped_60 : decode prog_4_method_20_code 60 = .ok (.aload_n 0, 1) := by decide +kernel
theorem d_Code_isFieldShaped_61 : decode prog_4_method_20_code 61 = .ok (.getfield 41, 3) := by decide +kernel
theorem d_Code_isFieldShaped_64 : decode prog_4_method_20_code 64 = .ok (.ifCond .ne 7, 3) := by decide +kernel
theorem d_Code_isFieldShaped_71 : decode prog_4_method_20_code 71 = .ok (.iconst 0, 1) := by decide +kernel
abbrev y_Code_isWrongField : MethodName := ⟨"FilterGuard$Code", "isWrongField", "()Z"⟩
theorem d_Code_isWrongField_0 : decode prog_4_method_17_code 0 = .ok (.aload_n 0, 1) := by decide +kernel
theorem d_Code_isWrongField_1 : decode prog_4_method_17_code 1 = .ok (.getfield 58, 3) := by decide +kernel
theorem d_Code_isWrongField_4 : decode prog_4_method_17_code 4 = .ok (.iconst 3, 1) := by decide +kernel
theorem d_Code_isWrongField_5 : decode prog_4_method_17_code 5 = .ok (.if_icmp .eq 11, 3) := by decide +kernel
theorem d_Code_isWrongField_16 : decode prog_4_method_17_code 16 = .ok (.aload_n 0, 1) := by decide +kernel
theorem d_Code_isWrongField_17 : decode prog_4_method_17_code 17 = .ok (.getfield 41, 3) := by decide +kernel
theorem d_Code_isWrongField_20 : decode prog_4_method_17_code 20 = .ok (.ifCond .ne 7, 3) := by decide +kernel
theorem d_Code_isWrongField_27 : decode prog_4_method_17_code 27 = .ok (.iconst 0, 1) := by decide +kernel
theorem d_Code_isWrongField_28 : decode prog_4_method_17_code 28 = .ok (.ireturn, 1) := by decide +kernel
theorem d_Code_isWrongField_23 : decode prog_4_method_17_code 23 = .ok (.iconst 1, 1) := by decide +kernel
theorem d_Code_isWrongField_24 : decode prog_4_method_17_code 24 = .ok (.goto 4, 3) := by decide +kernel
theorem d_Code_isWrongField_8 : decode prog_4_method_17_code 8 = .ok (.aload_n 0, 1) := by decide +kernel
theorem d_Code_isWrongField_9 : decode prog_4_method_17_code 9 = .ok (.getfield 58, 3) := by decide +kernel
theorem d_Code_isWrongField_12 : decode prog_4_method_17_code 12 = .ok (.iconst 4, 1) := by decide +kernel
theorem d_Code_isWrongField_13 : decode prog_4_method_17_code 13 = .ok (.if_icmp .ne 16, 3) := by decide +kernel
theorem d_Code_isWrongField_29 : decode prog_4_method_17_code 29 = .ok (.aload_n 0, 1) := by decide +kernel
theorem d_Code_isWrongField_30 : decode prog_4_method_17_code 30 = .ok (.getfield 58, 3) := by decide +kernel
theorem d_Code_isWrongField_33 : decode prog_4_method_17_code 33 = .ok (.bipush 8, 2) := by decide +kernel
theorem d_Code_isWrongField_35 : decode prog_4_method_17_code 35 = .ok (.if_icmp .lt 16, 3) := by decide +kernel
theorem d_Code_isWrongField_51 : decode prog_4_method_17_code 51 = .ok (.iconst 0, 1) := by decide +kernel
theorem d_Code_isWrongField_52 : decode prog_4_method_17_code 52 = .ok (.istore_n 1, 1) := by decide +kernel
theorem d_Code_isWrongField_53 : decode prog_4_method_17_code 53 = .ok (.iload_n 1, 1) := by decide +kernel
theorem d_Code_isWrongField_54 : decode prog_4_method_17_code 54 = .ok (.ifCond .eq 35, 3) := by decide +kernel
theorem d_Code_isWrongField_89 : decode prog_4_method_17_code 89 = .ok (.iconst 0, 1) := by decide +kernel
theorem d_Code_isWrongField_90 : decode prog_4_method_17_code 90 = .ok (.ireturn, 1) := by decide +kernel
theorem d_Code_isWrongField_38 : decode prog_4_method_17_code 38 = .ok (.aload_n 0, 1) := by decide +kernel
theorem d_Code_isWrongField_39 : decode prog_4_method_17_code 39 = .ok (.getfield 58, 3) := by decide +kernel
theorem d_Code_isWrongField_42 : decode prog_4_method_17_code 42 = .ok (.bipush 10, 2) := by decide +kernel
theorem d_Code_isWrongField_44 : decode prog_4_method_17_code 44 = .ok (.if_icmp .gt 7, 3) := by decide +kernel
theorem d_Code_isWrongField_47 : decode prog_4_method_17_code 47 = .ok (.iconst 1, 1) := by decide +kernel
theorem d_Code_isWrongField_48 : decode prog_4_method_17_code 48 = .ok (.goto 4, 3) := by decide +kernel
theorem d_Code_isWrongField_57 : decode prog_4_method_17_code 57 = .ok (.aload_n 0, 1) := by decide +kernel
theorem d_Code_isWrongField_58 : decode prog_4_method_17_code 58 = .ok (.getfield 41, 3) := by decide +kernel
theorem d_Code_isWrongField_61 : decode prog_4_method_17_code 61 = .ok (.ifCond .lt 24, 3) := by decide +kernel
theorem d_Code_isWrongField_85 : decode prog_4_method_17_code 85 = .ok (.iconst 1, 1) := by decide +kernel
theorem d_Code_isWrongField_86 : decode prog_4_method_17_code 86 = .ok (.goto 4, 3) := by decide +kernel
theorem d_Code_isWrongField_64 : decode prog_4_method_17_code 64 = .ok (.aload_n 0, 1) := by decide +kernel
theorem d_Code_isWrongField_65 : decode prog_4_method_17_code 65 = .ok (.getfield 41, 3) := by decide +kernel
theorem d_Code_isWrongField_68 : decode prog_4_method_17_code 68 = .ok (.aload_n 0, 1) := by decide +kernel
theorem d_Code_isWrongField_69 : decode prog_4_method_17_code 69 = .ok (.getfield 61, 3) := by decide +kernel
theorem d_Code_isWrongField_72 : decode prog_4_method_17_code 72 = .ok (.ifCond .eq 8, 3) := by decide +kernel
theorem d_Code_isWrongField_80 : decode prog_4_method_17_code 80 = .ok (.bipush 63, 2) := by decide +kernel
theorem d_Code_isWrongField_75 : decode prog_4_method_17_code 75 = .ok (.bipush 31, 2) := by decide +kernel
theorem d_Code_isWrongField_77 : decode prog_4_method_17_code 77 = .ok (.goto 5, 3) := by decide +kernel
theorem d_Code_isWrongField_82 : decode prog_4_method_17_code 82 = .ok (.if_icmp .le 7, 3) := by decide +kernel
abbrev y_Code_isShaped : MethodName := ⟨"FilterGuard$Code", "isShaped", "(I)Z"⟩
theorem d_Code_isShaped_0 : decode prog_4_method_18_code 0 = .ok (.aload_n 0, 1) := by decide +kernel
theorem d_Code_isShaped_1 : decode prog_4_method_18_code 1 = .ok (.getfield 55, 3) := by decide +kernel
theorem d_Code_isShaped_4 : decode prog_4_method_18_code 4 = .ok (.tableswitch 270 1 10 #[56, 124, 124, 137, 124, 150, 182, 177, 209, 236], 56) := by decide +kernel
theorem d_Code_isShaped_60 : decode prog_4_method_18_code 60 = .ok (.aload_n 0, 1) := by decide +kernel
theorem d_Code_isShaped_61 : decode prog_4_method_18_code 61 = .ok (.getfield 38, 3) := by decide +kernel
theorem d_Code_isShaped_64 : decode prog_4_method_18_code 64 = .ok (.ifCond .ne 62, 3) := by decide +kernel
theorem d_Code_isShaped_126 : decode prog_4_method_18_code 126 = .ok (.iconst 0, 1) := by decide +kernel
theorem d_Code_isShaped_127 : decode prog_4_method_18_code 127 = .ok (.ireturn, 1) := by decide +kernel
theorem d_Code_isShaped_67 : decode prog_4_method_18_code 67 = .ok (.aload_n 0, 1) := by decide +kernel
theorem d_Code_isShaped_68 : decode prog_4_method_18_code 68 = .ok (.getfield 35, 3) := by decide +kernel
theorem d_Code_isShaped_71 : decode prog_4_method_18_code 71 = .ok (.iconst 1, 1) := by decide +kernel
theorem d_Code_isShaped_72 : decode prog_4_method_18_code 72 = .ok (.if_icmp .gt 54, 3) := by decide +kernel
theorem d_Code_isShaped_75 : decode prog_4_method_18_code 75 = .ok (.iload_n 1, 1) := by decide +kernel
theorem d_Code_isShaped_76 : decode prog_4_method_18_code 76 = .ok (.iconst 1, 1) := by decide +kernel
theorem d_Code_isShaped_77 : decode prog_4_method_18_code 77 = .ok (.iadd, 1) := by decide +kernel
theorem d_Code_isShaped_78 : decode prog_4_method_18_code 78 = .ok (.aload_n 0, 1) := by decide +kernel
theorem d_Code_isShaped_79 : decode prog_4_method_18_code 79 = .ok (.getfield 22, 3) := by decide +kernel
theorem d_Code_isShaped_82 : decode prog_4_method_18_code 82 = .ok (.if_icmp .ge 44, 3) := by decide +kernel
theorem d_Code_isShaped_85 : decode prog_4_method_18_code 85 = .ok (.aload_n 0, 1) := by decide +kernel
theorem d_Code_isShaped_86 : decode prog_4_method_18_code 86 = .ok (.getfield 9, 3) := by decide +kernel
theorem d_Code_isShaped_89 : decode prog_4_method_18_code 89 = .ok (.iload_n 1, 1) := by decide +kernel
theorem d_Code_isShaped_90 : decode prog_4_method_18_code 90 = .ok (.iconst 1, 1) := by decide +kernel
theorem d_Code_isShaped_91 : decode prog_4_method_18_code 91 = .ok (.iadd, 1) := by decide +kernel
theorem d_Code_isShaped_92 : decode prog_4_method_18_code 92 = .ok (.laload, 1) := by decide +kernel
theorem d_Code_isShaped_93 : decode prog_4_method_18_code 93 = .ok (.ldc2_w 86, 3) := by decide +kernel
theorem d_Code_isShaped_96 : decode prog_4_method_18_code 96 = .ok (.land, 1) := by decide +kernel
theorem d_Code_isShaped_97 : decode prog_4_method_18_code 97 = .ok (.lconst 0, 1) := by decide +kernel
theorem d_Code_isShaped_98 : decode prog_4_method_18_code 98 = .ok (.lcmp, 1) := by decide +kernel
theorem d_Code_isShaped_99 : decode prog_4_method_18_code 99 = .ok (.ifCond .ne 27, 3) := by decide +kernel
theorem d_Code_isShaped_102 : decode prog_4_method_18_code 102 = .ok (.aload_n 0, 1) := by decide +kernel
theorem d_Code_isShaped_103 : decode prog_4_method_18_code 103 = .ok (.getfield 35, 3) := by decide +kernel
theorem d_Code_isShaped_106 : decode prog_4_method_18_code 106 = .ok (.ifCond .eq 16, 3) := by decide +kernel
theorem d_Code_isShaped_122 : decode prog_4_method_18_code 122 = .ok (.iconst 1, 1) := by decide +kernel
theorem d_Code_isShaped_123 : decode prog_4_method_18_code 123 = .ok (.goto 4, 3) := by decide +kernel
theorem d_Code_isShaped_109 : decode prog_4_method_18_code 109 = .ok (.aload_n 0, 1) := by decide +kernel
theorem d_Code_isShaped_110 : decode prog_4_method_18_code 110 = .ok (.getfield 9, 3) := by decide +kernel
theorem d_Code_isShaped_113 : decode prog_4_method_18_code 113 = .ok (.iload_n 1, 1) := by decide +kernel
theorem d_Code_isShaped_114 : decode prog_4_method_18_code 114 = .ok (.iconst 1, 1) := by decide +kernel
theorem d_Code_isShaped_115 : decode prog_4_method_18_code 115 = .ok (.iadd, 1) := by decide +kernel
theorem d_Code_isShaped_116 : decode prog_4_method_18_code 116 = .ok (.laload, 1) := by decide +kernel
theorem d_Code_isShaped_117 : decode prog_4_method_18_code 117 = .ok (.lconst 0, 1) := by decide +kernel
theorem d_Code_isShaped_118 : decode prog_4_method_18_code 118 = .ok (.lcmp, 1) := by decide +kernel
theorem d_Code_isShaped_119 : decode prog_4_method_18_code 119 = .ok (.ifCond .ne 7, 3) := by decide +kernel
theorem d_Code_isShaped_128 : decode prog_4_method_18_code 128 = .ok (.aload_n 0, 1) := by decide +kernel
theorem d_Code_isShaped_129 : decode prog_4_method_18_code 129 = .ok (.getfield 41, 3) := by decide +kernel
theorem d_Code_isShaped_132 : decode prog_4_method_18_code 132 = .ok (.ifCond .ne 7, 3) := by decide +kernel
theorem d_Code_isShaped_139 : decode prog_4_method_18_code 139 = .ok (.iconst 0, 1) := by decide +kernel
theorem d_Code_isShaped_140 : decode prog_4_method_18_code 140 = .ok (.ireturn, 1) := by decide +kernel
theorem d_Code_isShaped_135 : decode prog_4_method_18_code 135 = .ok (.iconst 1, 1) := by decide +kernel
theorem d_Code_isShaped_136 : decode prog_4_method_18_code 136 = .ok (.goto 4, 3) := by decide +kernel
theorem d_Code_isShaped_141 : decode prog_4_method_18_code 141 = .ok (.aload_n 0, 1) := by decide +kernel
theorem d_Code_isShaped_142 : decode prog_4_method_18_code 142 = .ok (.getfield 35, 3) := by decide +kernel
theorem d_Code_isShaped_145 : decode prog_4_method_18_code 145 = .ok (.ifCond .ne 7, 3) := by decide +kernel
theorem d_Code_isShaped_152 : decode prog_4_method_18_code 152 = .ok (.iconst 0, 1) := by decide +kernel
theorem d_Code_isShaped_153 : decode prog_4_method_18_code 153 = .ok (.ireturn, 1) := by decide +kernel
theorem d_Code_isShaped_148 : decode prog_4_method_18_code 148 = .ok (.iconst 1, 1) := by decide +kernel
theorem d_Code_isShaped_149 : decode prog_4_method_18_code 149 = .ok (.goto 4, 3) := by decide +kernel
theorem d_Code_isShaped_154 : decode prog_4_method_18_code 154 = .ok (.aload_n 0, 1) := by decide +kernel
theorem d_Code_isShaped_155 : decode prog_4_method_18_code 155 = .ok (.getfield 38, 3) := by decide +kernel
theorem d_Code_isShaped_158 : decode prog_4_method_18_code 158 = .ok (.ifCond .ne 21, 3) := by decide +kernel
theorem d_Code_isShaped_179 : decode prog_4_method_18_code 179 = .ok (.iconst 0, 1) := by decide +kernel
theorem d_Code_isShaped_180 : decode prog_4_method_18_code 180 = .ok (.ireturn, 1) := by decide +kernel
theorem d_Code_isShaped_161 : decode prog_4_method_18_code 161 = .ok (.aload_n 0, 1) := by decide +kernel
theorem d_Code_isShaped_162 : decode prog_4_method_18_code 162 = .ok (.invokevirtual 114, 3) := by decide +kernel
theorem u_988 : Cond.methodLink "FilterGuard$Code" 114 ⟨"FilterGuard$Code", "isOneOperand", "()Z"⟩ ∈ fg_g := fg_in (List.mem_of_getElem? (i := 988) (by decide +kernel)) rfl
theorem u_991 : Cond.code ⟨"FilterGuard$Code", "isOneOperand", "()Z"⟩ prog_4_method_19_code 1 (some .boolean) ∈ fg_g := fg_in (List.mem_of_getElem? (i := 991) (by decide +kernel)) rfl
theorem u_990 : Cond.instanceMethod ⟨"FilterGuard$Code", "isOneOperand", "()Z"⟩ ∈ fg_g := fg_in (List.mem_of_getElem? (i := 990) (by decide +kernel)) rfl
theorem u_8 : Cond.selects "FilterGuard$Code" ⟨"FilterGuard$Code", "isOneOperand", "()Z"⟩ ⟨"FilterGuard$Code", "isOneOperand", "()Z"⟩ ∈ fg_g := fg_in (List.mem_of_getElem? (i := 8) (by decide +kernel)) rfl
theorem d_Code_isShaped_165 : decode prog_4_method_18_code 165 = .ok (.ifCond .eq 14, 3) := by decide +kernel
theorem d_Code_isShaped_168 : decode prog_4_method_18_code 168 = .ok (.aload_n 0, 1) := by decide +kernel
theorem d_Code_isShaped_169 : decode prog_4_method_18_code 169 = .ok (.invokevirtual 117, 3) := by decide +kernel
theorem u_992 : Cond.methodLink "FilterGuard$Code" 117 ⟨"FilterGuard$Code", "isFieldShaped", "()Z"⟩ ∈ fg_g := fg_in (List.mem_of_getElem? (i := 992) (by decide +kernel)) rfl
theorem u_995 : Cond.code ⟨"FilterGuard$Code", "isFieldShaped", "()Z"⟩ prog_4_method_20_code 1 (some .boolean) ∈ fg_g := fg_in (List.mem_of_getElem? (i := 995) (by decide +kernel)) rfl
theorem u_994 : Cond.instanceMethod ⟨"FilterGuard$Code", "isFieldShaped", "()Z"⟩ ∈ fg_g := fg_in (List.mem_of_getElem? (i := 994) (by decide +kernel)) rfl
theorem u_9 : Cond.selects "FilterGuard$Code" ⟨"FilterGuard$Code", "isFieldShaped", "()Z"⟩ ⟨"FilterGuard$Code", "isFieldShaped", "()Z"⟩ ∈ fg_g := fg_in (List.mem_of_getElem? (i := 9) (by decide +kernel)) rfl
theorem d_Code_isShaped_172 : decode prog_4_method_18_code 172 = .ok (.ifCond .eq 7, 3) := by decide +kernel
theorem d_Code_isShaped_175 : decode prog_4_method_18_code 175 = .ok (.iconst 1, 1) := by decide +kernel
theorem d_Code_isShaped_176 : decode prog_4_method_18_code 176 = .ok (.goto 4, 3) := by decide +kernel
theorem d_Code_isShaped_186 : decode prog_4_method_18_code 186 = .ok (.aload_n 0, 1) := by decide +kernel
theorem d_Code_isShaped_187 : decode prog_4_method_18_code 187 = .ok (.getfield 41, 3) := by decide +kernel
theorem d_Code_isShaped_190 : decode prog_4_method_18_code 190 = .ok (.ifCond .ne 21, 3) := by decide +kernel
theorem d_Code_isShaped_211 : decode prog_4_method_18_code 211 = .ok (.iconst 0, 1) := by decide +kernel
theorem d_Code_isShaped_212 : decode prog_4_method_18_code 212 = .ok (.ireturn, 1) := by decide +kernel
theorem d_Code_isShaped_193 : decode prog_4_method_18_code 193 = .ok (.aload_n 0, 1) := by decide +kernel
theorem d_Code_isShaped_194 : decode prog_4_method_18_code 194 = .ok (.getfield 32, 3) := by decide +kernel
theorem d_Code_isShaped_197 : decode prog_4_method_18_code 197 = .ok (.ifCond .ne 14, 3) := by decide +kernel
theorem d_Code_isShaped_200 : decode prog_4_method_18_code 200 = .ok (.aload_n 0, 1) := by decide +kernel
theorem d_Code_isShaped_201 : decode prog_4_method_18_code 201 = .ok (.getfield 35, 3) := by decide +kernel
theorem d_Code_isShaped_204 : decode prog_4_method_18_code 204 = .ok (.ifCond .ne 7, 3) := by decide +kernel
theorem d_Code_isShaped_207 : decode prog_4_method_18_code 207 = .ok (.iconst 1, 1) := by decide +kernel
theorem d_Code_isShaped_208 : decode prog_4_method_18_code 208 = .ok (.goto 4, 3) := by decide +kernel
theorem d_Code_isShaped_181 : decode prog_4_method_18_code 181 = .ok (.aload_n 0, 1) := by decide +kernel
theorem d_Code_isShaped_182 : decode prog_4_method_18_code 182 = .ok (.invokevirtual 114, 3) := by decide +kernel
theorem d_Code_isShaped_185 : decode prog_4_method_18_code 185 = .ok (.ireturn, 1) := by decide +kernel
theorem d_Code_isShaped_213 : decode prog_4_method_18_code 213 = .ok (.aload_n 0, 1) := by decide +kernel
theorem d_Code_isShaped_214 : decode prog_4_method_18_code 214 = .ok (.getfield 38, 3) := by decide +kernel
theorem d_Code_isShaped_217 : decode prog_4_method_18_code 217 = .ok (.ifCond .ne 21, 3) := by decide +kernel
theorem d_Code_isShaped_238 : decode prog_4_method_18_code 238 = .ok (.iconst 0, 1) := by decide +kernel
theorem d_Code_isShaped_239 : decode prog_4_method_18_code 239 = .ok (.ireturn, 1) := by decide +kernel
theorem d_Code_isShaped_220 : decode prog_4_method_18_code 220 = .ok (.aload_n 0, 1) := by decide +kernel
theorem d_Code_isShaped_221 : decode prog_4_method_18_code 221 = .ok (.getfield 32, 3) := by decide +kernel
theorem d_Code_isShaped_224 : decode prog_4_method_18_code 224 = .ok (.ifCond .ne 14, 3) := by decide +kernel
theorem d_Code_isShaped_227 : decode prog_4_method_18_code 227 = .ok (.aload_n 0, 1) := by decide +kernel
theorem d_Code_isShaped_228 : decode prog_4_method_18_code 228 = .ok (.getfield 35, 3) := by decide +kernel
theorem d_Code_isShaped_231 : decode prog_4_method_18_code 231 = .ok (.ifCond .ne 7, 3) := by decide +kernel
theorem d_Code_isShaped_234 : decode prog_4_method_18_code 234 = .ok (.iconst 1, 1) := by decide +kernel
theorem d_Code_isShaped_235 : decode prog_4_method_18_code 235 = .ok (.goto 4, 3) := by decide +kernel
theorem d_Code_isShaped_240 : decode prog_4_method_18_code 240 = .ok (.aload_n 0, 1) := by decide +kernel
theorem d_Code_isShaped_241 : decode prog_4_method_18_code 241 = .ok (.getfield 41, 3) := by decide +kernel
theorem d_Code_isShaped_244 : decode prog_4_method_18_code 244 = .ok (.ifCond .ne 28, 3) := by decide +kernel
theorem d_Code_isShaped_272 : decode prog_4_method_18_code 272 = .ok (.iconst 0, 1) := by decide +kernel
theorem d_Code_isShaped_273 : decode prog_4_method_18_code 273 = .ok (.ireturn, 1) := by decide +kernel
theorem d_Code_isShaped_247 : decode prog_4_method_18_code 247 = .ok (.aload_n 0, 1) := by decide +kernel
theorem d_Code_isShaped_248 : decode prog_4_method_18_code 248 = .ok (.getfield 38, 3) := by decide +kernel
theorem d_Code_isShaped_251 : decode prog_4_method_18_code 251 = .ok (.ifCond .ne 21, 3) := by decide +kernel
theorem d_Code_isShaped_254 : decode prog_4_method_18_code 254 = .ok (.aload_n 0, 1) := by decide +kernel
theorem d_Code_isShaped_255 : decode prog_4_method_18_code 255 = .ok (.getfield 32, 3) := by decide +kernel
theorem d_Code_isShaped_258 : decode prog_4_method_18_code 258 = .ok (.ifCond .ne 14, 3) := by decide +kernel
theorem d_Code_isShaped_261 : decode prog_4_method_18_code 261 = .ok (.aload_n 0, 1) := by decide +kernel
theorem d_Code_isShaped_262 : decode prog_4_method_18_code 262 = .ok (.getfield 35, 3) := by decide +kernel
theorem d_Code_isShaped_265 : decode prog_4_method_18_code 265 = .ok (.ifCond .ne 7, 3) := by decide +kernel
theorem d_Code_isShaped_268 : decode prog_4_method_18_code 268 = .ok (.iconst 1, 1) := by decide +kernel
theorem d_Code_isShaped_269 : decode prog_4_method_18_code 269 = .ok (.goto 4, 3) := by decide +kernel
theorem d_Code_isShaped_274 : decode prog_4_method_18_code 274 = .ok (.iconst 0, 1) := by decide +kernel
theorem d_Code_isShaped_275 : decode prog_4_method_18_code 275 = .ok (.ireturn, 1) := by decide +kernel
abbrev y_Code_faultOfSlot : MethodName := ⟨"FilterGuard$Code", "faultOfSlot", "(II)I"⟩
theorem d_Code_faultOfSlot_0 : decode prog_4_method_16_code 0 = .ok (.aload_n 0, 1) := by decide +kernel
theorem d_Code_faultOfSlot_1 : decode prog_4_method_16_code 1 = .ok (.iload_n 1, 1) := by decide +kernel
theorem d_Code_faultOfSlot_2 : decode prog_4_method_16_code 2 = .ok (.invokevirtual 108, 3) := by decide +kernel
theorem u_983 : Cond.methodLink "FilterGuard$Code" 108 ⟨"FilterGuard$Code", "isShaped", "(I)Z"⟩ ∈ fg_g := fg_in (List.mem_of_getElem? (i := 983) (by decide +kernel)) rfl
theorem u_986 : Cond.code ⟨"FilterGuard$Code", "isShaped", "(I)Z"⟩ prog_4_method_18_code 2 (some .boolean) ∈ fg_g := fg_in (List.mem_of_getElem? (i := 986) (by decide +kernel)) rfl
theorem u_985 : Cond.instanceMethod ⟨"FilterGuard$Code", "isShaped", "(I)Z"⟩ ∈ fg_g := fg_in (List.mem_of_getElem? (i := 985) (by decide +kernel)) rfl
theorem u_7 : Cond.selects "FilterGuard$Code" ⟨"FilterGuard$Code", "isShaped", "(I)Z"⟩ ⟨"FilterGuard$Code", "isShaped", "(I)Z"⟩ ∈ fg_g := fg_in (List.mem_of_getElem? (i := 7) (by decide +kernel)) rfl
theorem d_Code_faultOfSlot_5 : decode prog_4_method_16_code 5 = .ok (.ifCond .ne 5, 3) := by decide +kernel
theorem d_Code_faultOfSlot_10 : decode prog_4_method_16_code 10 = .ok (.aload_n 0, 1) := by decide +kernel
theorem d_Code_faultOfSlot_11 : decode prog_4_method_16_code 11 = .ok (.getfield 55, 3) := by decide +kernel
theorem d_Code_faultOfSlot_14 : decode prog_4_method_16_code 14 = .ok (.iconst 1, 1) := by decide +kernel
theorem d_Code_faultOfSlot_15 : decode prog_4_method_16_code 15 = .ok (.if_icmp .eq 20, 3) := by decide +kernel
theorem d_Code_faultOfSlot_35 : decode prog_4_method_16_code 35 = .ok (.iconst 1, 1) := by decide +kernel
theorem d_Code_faultOfSlot_36 : decode prog_4_method_16_code 36 = .ok (.goto 4, 3) := by decide +kernel
theorem d_Code_faultOfSlot_18 : decode prog_4_method_16_code 18 = .ok (.aload_n 0, 1) := by decide +kernel
theorem d_Code_faultOfSlot_19 : decode prog_4_method_16_code 19 = .ok (.getfield 55, 3) := by decide +kernel
theorem d_Code_faultOfSlot_22 : decode prog_4_method_16_code 22 = .ok (.iconst 2, 1) := by decide +kernel
theorem d_Code_faultOfSlot_23 : decode prog_4_method_16_code 23 = .ok (.if_icmp .eq 12, 3) := by decide +kernel
theorem d_Code_faultOfSlot_26 : decode prog_4_method_16_code 26 = .ok (.aload_n 0, 1) := by decide +kernel
theorem d_Code_faultOfSlot_27 : decode prog_4_method_16_code 27 = .ok (.getfield 55, 3) := by decide +kernel
theorem d_Code_faultOfSlot_30 : decode prog_4_method_16_code 30 = .ok (.bipush 6, 2) := by decide +kernel
theorem d_Code_faultOfSlot_32 : decode prog_4_method_16_code 32 = .ok (.if_icmp .ne 7, 3) := by decide +kernel
theorem d_Code_faultOfSlot_39 : decode prog_4_method_16_code 39 = .ok (.iconst 0, 1) := by decide +kernel
theorem d_Code_faultOfSlot_40 : decode prog_4_method_16_code 40 = .ok (.istore_n 3, 1) := by decide +kernel
theorem d_Code_faultOfSlot_41 : decode prog_4_method_16_code 41 = .ok (.aload_n 0, 1) := by decide +kernel
theorem d_Code_faultOfSlot_42 : decode prog_4_method_16_code 42 = .ok (.getfield 32, 3) := by decide +kernel
theorem d_Code_faultOfSlot_45 : decode prog_4_method_16_code 45 = .ok (.bipush 10, 2) := by decide +kernel
theorem d_Code_faultOfSlot_47 : decode prog_4_method_16_code 47 = .ok (.if_icmp .gt 25, 3) := by decide +kernel
theorem d_Code_faultOfSlot_72 : decode prog_4_method_16_code 72 = .ok (.iconst 2, 1) := by decide +kernel
theorem d_Code_faultOfSlot_73 : decode prog_4_method_16_code 73 = .ok (.ireturn, 1) := by decide +kernel
theorem d_Code_faultOfSlot_50 : decode prog_4_method_16_code 50 = .ok (.aload_n 0, 1) := by decide +kernel
theorem d_Code_faultOfSlot_51 : decode prog_4_method_16_code 51 = .ok (.getfield 35, 3) := by decide +kernel
theorem d_Code_faultOfSlot_54 : decode prog_4_method_16_code 54 = .ok (.bipush 10, 2) := by decide +kernel
theorem d_Code_faultOfSlot_56 : decode prog_4_method_16_code 56 = .ok (.if_icmp .gt 16, 3) := by decide +kernel
theorem d_Code_faultOfSlot_59 : decode prog_4_method_16_code 59 = .ok (.iload_n 3, 1) := by decide +kernel
theorem d_Code_faultOfSlot_60 : decode prog_4_method_16_code 60 = .ok (.ifCond .eq 14, 3) := by decide +kernel
theorem d_Code_faultOfSlot_74 : decode prog_4_method_16_code 74 = .ok (.aload_n 0, 1) := by decide +kernel
theorem d_Code_faultOfSlot_75 : decode prog_4_method_16_code 75 = .ok (.getfield 55, 3) := by decide +kernel
theorem d_Code_faultOfSlot_78 : decode prog_4_method_16_code 78 = .ok (.bipush 6, 2) := by decide +kernel
theorem d_Code_faultOfSlot_80 : decode prog_4_method_16_code 80 = .ok (.if_icmp .ne 19, 3) := by decide +kernel
theorem d_Code_faultOfSlot_99 : decode prog_4_method_16_code 99 = .ok (.aload_n 0, 1) := by decide +kernel
theorem d_Code_faultOfSlot_100 : decode prog_4_method_16_code 100 = .ok (.getfield 55, 3) := by decide +kernel
theorem d_Code_faultOfSlot_103 : decode prog_4_method_16_code 103 = .ok (.bipush 9, 2) := by decide +kernel
theorem d_Code_faultOfSlot_105 : decode prog_4_method_16_code 105 = .ok (.if_icmp .ne 22, 3) := by decide +kernel
theorem d_Code_faultOfSlot_127 : decode prog_4_method_16_code 127 = .ok (.aload_n 0, 1) := by decide +kernel
theorem d_Code_faultOfSlot_128 : decode prog_4_method_16_code 128 = .ok (.getfield 55, 3) := by decide +kernel
theorem d_Code_faultOfSlot_131 : decode prog_4_method_16_code 131 = .ok (.iconst 1, 1) := by decide +kernel
theorem d_Code_faultOfSlot_132 : decode prog_4_method_16_code 132 = .ok (.if_icmp .ne 30, 3) := by decide +kernel
theorem d_Code_faultOfSlot_162 : decode prog_4_method_16_code 162 = .ok (.iconst 0, 1) := by decide +kernel
theorem d_Code_faultOfSlot_163 : decode prog_4_method_16_code 163 = .ok (.ireturn, 1) := by decide +kernel
theorem d_Code_faultOfSlot_135 : decode prog_4_method_16_code 135 = .ok (.aload_n 0, 1) := by decide +kernel
theorem d_Code_faultOfSlot_136 : decode prog_4_method_16_code 136 = .ok (.getfield 35, 3) := by decide +kernel
theorem d_Code_faultOfSlot_139 : decode prog_4_method_16_code 139 = .ok (.iconst 1, 1) := by decide +kernel
theorem d_Code_faultOfSlot_140 : decode prog_4_method_16_code 140 = .ok (.if_icmp .ne 22, 3) := by decide +kernel
theorem d_Code_faultOfSlot_143 : decode prog_4_method_16_code 143 = .ok (.aload_n 0, 1) := by decide +kernel
theorem d_Code_faultOfSlot_144 : decode prog_4_method_16_code 144 = .ok (.getfield 41, 3) := by decide +kernel
theorem d_Code_faultOfSlot_147 : decode prog_4_method_16_code 147 = .ok (.ifCond .lt 11, 3) := by decide +kernel
theorem d_Code_faultOfSlot_158 : decode prog_4_method_16_code 158 = .ok (.iconst 4, 1) := by decide +kernel
theorem d_Code_faultOfSlot_159 : decode prog_4_method_16_code 159 = .ok (.goto 4, 3) := by decide +kernel
theorem d_Code_faultOfSlot_150 : decode prog_4_method_16_code 150 = .ok (.aload_n 0, 1) := by decide +kernel
theorem d_Code_faultOfSlot_151 : decode prog_4_method_16_code 151 = .ok (.getfield 41, 3) := by decide +kernel
theorem d_Code_faultOfSlot_154 : decode prog_4_method_16_code 154 = .ok (.iload_n 2, 1) := by decide +kernel
theorem d_Code_faultOfSlot_155 : decode prog_4_method_16_code 155 = .ok (.if_icmp .lt 7, 3) := by decide +kernel
theorem d_Code_faultOfSlot_108 : decode prog_4_method_16_code 108 = .ok (.aload_n 0, 1) := by decide +kernel
theorem d_Code_faultOfSlot_109 : decode prog_4_method_16_code 109 = .ok (.getfield 41, 3) := by decide +kernel
theorem d_Code_faultOfSlot_112 : decode prog_4_method_16_code 112 = .ok (.iconst 1, 1) := by decide +kernel
theorem d_Code_faultOfSlot_113 : decode prog_4_method_16_code 113 = .ok (.if_icmp .lt 12, 3) := by decide +kernel
theorem d_Code_faultOfSlot_125 : decode prog_4_method_16_code 125 = .ok (.iconst 4, 1) := by decide +kernel
theorem d_Code_faultOfSlot_126 : decode prog_4_method_16_code 126 = .ok (.ireturn, 1) := by decide +kernel
theorem d_Code_faultOfSlot_116 : decode prog_4_method_16_code 116 = .ok (.aload_n 0, 1) := by decide +kernel
theorem d_Code_faultOfSlot_117 : decode prog_4_method_16_code 117 = .ok (.getfield 41, 3) := by decide +kernel
theorem d_Code_faultOfSlot_120 : decode prog_4_method_16_code 120 = .ok (.bipush 6, 2) := by decide +kernel
theorem d_Code_faultOfSlot_122 : decode prog_4_method_16_code 122 = .ok (.if_icmp .le 5, 3) := by decide +kernel
theorem d_Code_faultOfSlot_83 : decode prog_4_method_16_code 83 = .ok (.aload_n 0, 1) := by decide +kernel
theorem d_Code_faultOfSlot_84 : decode prog_4_method_16_code 84 = .ok (.getfield 68, 3) := by decide +kernel
theorem d_Code_faultOfSlot_87 : decode prog_4_method_16_code 87 = .ok (.ifCond .ne 12, 3) := by decide +kernel
theorem d_Code_faultOfSlot_90 : decode prog_4_method_16_code 90 = .ok (.aload_n 0, 1) := by decide +kernel
theorem d_Code_faultOfSlot_91 : decode prog_4_method_16_code 91 = .ok (.invokevirtual 111, 3) := by decide +kernel
theorem u_996 : Cond.methodLink "FilterGuard$Code" 111 ⟨"FilterGuard$Code", "isWrongField", "()Z"⟩ ∈ fg_g := fg_in (List.mem_of_getElem? (i := 996) (by decide +kernel)) rfl
theorem u_999 : Cond.code ⟨"FilterGuard$Code", "isWrongField", "()Z"⟩ prog_4_method_17_code 2 (some .boolean) ∈ fg_g := fg_in (List.mem_of_getElem? (i := 999) (by decide +kernel)) rfl
theorem u_998 : Cond.instanceMethod ⟨"FilterGuard$Code", "isWrongField", "()Z"⟩ ∈ fg_g := fg_in (List.mem_of_getElem? (i := 998) (by decide +kernel)) rfl
theorem u_10 : Cond.selects "FilterGuard$Code" ⟨"FilterGuard$Code", "isWrongField", "()Z"⟩ ⟨"FilterGuard$Code", "isWrongField", "()Z"⟩ ∈ fg_g := fg_in (List.mem_of_getElem? (i := 10) (by decide +kernel)) rfl
theorem d_Code_faultOfSlot_94 : decode prog_4_method_16_code 94 = .ok (.ifCond .eq 5, 3) := by decide +kernel
theorem d_Code_faultOfSlot_97 : decode prog_4_method_16_code 97 = .ok (.iconst 3, 1) := by decide +kernel
theorem d_Code_faultOfSlot_98 : decode prog_4_method_16_code 98 = .ok (.ireturn, 1) := by decide +kernel
theorem d_Code_faultOfSlot_63 : decode prog_4_method_16_code 63 = .ok (.aload_n 0, 1) := by decide +kernel
theorem d_Code_faultOfSlot_64 : decode prog_4_method_16_code 64 = .ok (.getfield 32, 3) := by decide +kernel
theorem d_Code_faultOfSlot_67 : decode prog_4_method_16_code 67 = .ok (.bipush 10, 2) := by decide +kernel
theorem d_Code_faultOfSlot_69 : decode prog_4_method_16_code 69 = .ok (.if_icmp .ne 5, 3) := by decide +kernel
theorem d_Code_faultOfSlot_8 : decode prog_4_method_16_code 8 = .ok (.iconst 1, 1) := by decide +kernel
theorem d_Code_faultOfSlot_9 : decode prog_4_method_16_code 9 = .ok (.ireturn, 1) := by decide +kernel
abbrev y_Code_markTarget : MethodName := ⟨"FilterGuard$Code", "markTarget", "(I)Z"⟩
theorem d_Code_markTarget_0 : decode prog_4_method_15_code 0 = .ok (.iload_n 1, 1) := by decide +kernel
theorem d_Code_markTarget_1 : decode prog_4_method_15_code 1 = .ok (.ifCond .lt 20, 3) := by decide +kernel
theorem d_Code_markTarget_21 : decode prog_4_method_15_code 21 = .ok (.iconst 0, 1) := by decide +kernel
theorem d_Code_markTarget_22 : decode prog_4_method_15_code 22 = .ok (.ireturn, 1) := by decide +kernel
theorem d_Code_markTarget_4 : decode prog_4_method_15_code 4 = .ok (.iload_n 1, 1) := by decide +kernel
theorem d_Code_markTarget_5 : decode prog_4_method_15_code 5 = .ok (.aload_n 0, 1) := by decide +kernel
theorem d_Code_markTarget_6 : decode prog_4_method_15_code 6 = .ok (.getfield 22, 3) := by decide +kernel
theorem d_Code_markTarget_9 : decode prog_4_method_15_code 9 = .ok (.if_icmp .ge 12, 3) := by decide +kernel
theorem d_Code_markTarget_12 : decode prog_4_method_15_code 12 = .ok (.aload_n 0, 1) := by decide +kernel
theorem d_Code_markTarget_13 : decode prog_4_method_15_code 13 = .ok (.getfield 15, 3) := by decide +kernel
theorem d_Code_markTarget_16 : decode prog_4_method_15_code 16 = .ok (.iload_n 1, 1) := by decide +kernel
theorem d_Code_markTarget_17 : decode prog_4_method_15_code 17 = .ok (.baload, 1) := by decide +kernel
theorem d_Code_markTarget_18 : decode prog_4_method_15_code 18 = .ok (.ifCond .eq 5, 3) := by decide +kernel
theorem d_Code_markTarget_23 : decode prog_4_method_15_code 23 = .ok (.aload_n 0, 1) := by decide +kernel
theorem d_Code_markTarget_24 : decode prog_4_method_15_code 24 = .ok (.getfield 19, 3) := by decide +kernel
theorem d_Code_markTarget_27 : decode prog_4_method_15_code 27 = .ok (.iload_n 1, 1) := by decide +kernel
theorem d_Code_markTarget_28 : decode prog_4_method_15_code 28 = .ok (.iconst 1, 1) := by decide +kernel
theorem d_Code_markTarget_29 : decode prog_4_method_15_code 29 = .ok (.bastore, 1) := by decide +kernel
theorem d_Code_markTarget_30 : decode prog_4_method_15_code 30 = .ok (.iconst 1, 1) := by decide +kernel
theorem d_Code_markTarget_31 : decode prog_4_method_15_code 31 = .ok (.ireturn, 1) := by decide +kernel
def fx_Code_bytesAt_r (cb1 : Int32) (x1 : Int32) : Int32 := (((1 <<< (cb1 &&& 31)) - 1) <<< ((x1 &&& 7) &&& 31))
def rm_Code_bytesAt : Room := { frames := 1, cells := 0, slots := 0, locals := 20 }
abbrev q_Code_bytesAt (D : va_G) (h0 : Nat) (hs : Nat) (hi : Nat) (hm : Nat) (n : Nat) (cf1 : Int32) (o : Int32) (ct1 : Int32) (ct2 : Int32) (co1 : Int32) (cf2 : Int32) (cg1 : Int32) (cb1 : Int32) (cn1 : Int32) (cn2 : Int32) (cr1 : Int32) (cr2 : Int32) (x1 : Int32) (A : Nat → Prop) : Array Value → Jvm.State → Outcome → Jvm.State → Prop := va_Qi (fun (r : Int32) (_ : Unit) => r = (fx_Code_bytesAt_r cb1 x1)) (fg_B D A (fun (_ : Unit) => [(h0, .inr (2, [.ref hs, .ref hi, .ref hm, .int (nI n), .int cf1, .int o, .int ct1, .int ct2, .int co1, .int cf2, .int cg1, .int cb1, .int cn1, .int cn2, .int cr1, .int cr2]))]) (fun (_ : Unit) => [])) A
set_option maxHeartbeats 4000000 in
set_option maxRecDepth 100000 in
theorem c_Code_bytesAt (l : Launch) (D : va_G) (h0 : Nat) (hs : Nat) (hi : Nat) (hm : Nat) (n : Nat) (cf1 : Int32) (o : Int32) (ct1 : Int32) (ct2 : Int32) (co1 : Int32) (cf2 : Int32) (cg1 : Int32) (cb1 : Int32) (cn1 : Int32) (cn2 : Int32) (cr1 : Int32) (cr2 : Int32) (x1 : Int32) (sz : Nat) : Met l y_Code_bytesAt (fg_w y_Code_bytesAt prog_4_method_7_code 2 (some .int)) rm_Code_bytesAt (va_Pc [.ref h0, .int x1] (fg_P D [] [(h0, .inr (2, [.ref hs, .ref hi, .ref hm, .int (nI n), .int cf1, .int o, .int ct1, .int ct2, .int co1, .int cf2, .int cg1, .int cb1, .int cn1, .int cn2, .int cr1, .int cr2]))] sz)) (q_Code_bytesAt D h0 hs hi hm n cf1 o ct1 ct2 co1 cf2 cg1 cb1 cn1 cn2 cr1 cr2 x1 (va_A [(h0, .inr (2, [.ref hs, .ref hi, .ref hm, .int (nI n), .int cf1, .int o, .int ct1, .int ct2, .int co1, .int cf2, .int cg1, .int cb1, .int cn1, .int cn2, .int cr1, .int cr2]))] sz)) rm_Code_bytesAt.cells rm_Code_bytesAt.slots (va_A [(h0, .inr (2, [.ref hs, .ref hi, .ref hm, .int (nI n), .int cf1, .int o, .int ct1, .int ct2, .int co1, .int cf2, .int cg1, .int cb1, .int cn1, .int cn2, .int cr1, .int cr2]))] sz) := by
  refine fg_enter (fun A => q_Code_bytesAt D h0 hs hi hm n cf1 o ct1 ct2 co1 cf2 cg1 cb1 cn1 cn2 cr1 cr2 x1 A) (by decide +kernel) (Nat.le_of_ble_eq_true rfl) ?_
  intro p e s m below meth c ls A hx hb hml hown hts hr hlocks hin hP hK hD hS hA hX hl
  have hl : lv_has ls 2 [(0, .ref h0), (1, .int x1)] := hl
  refine lv_iconst (v := 1) hx hb d_Code_bytesAt_0 (by decide) ?_
  refine lv_aload_n hx hb d_Code_bytesAt_1 rfl (lv_at hl 0 rfl) ?_
  refine va_get (D := D) (ci := 2) (v := .int cb1) (C := "FilterGuard$Code") (T := F_Code) (N := 16) hx hb hts i_Code hown hK hP 0 rfl rfl 11 (by decide) (hts _ u_257) (fun _ h9 => h9) rfl d_Code_bytesAt_2 ?_
  refine lv_ishl hx hb d_Code_bytesAt_5 ?_
  refine lv_iconst (v := 1) hx hb d_Code_bytesAt_6 (by decide) ?_
  refine lv_isub hx hb d_Code_bytesAt_7 ?_
  refine lv_iload_n hx hb d_Code_bytesAt_8 rfl (lv_at hl 1 rfl) ?_
  refine lv_bipush (v := 7) hx hb d_Code_bytesAt_9 (by decide) ?_
  refine lv_iand hx hb d_Code_bytesAt_11 ?_
  refine lv_ishl hx hb d_Code_bytesAt_12 ?_
  exact fg_reti () hx hb hr hlocks (by unfold fx_Code_bytesAt_r; first | done | rfl | contradiction) (hP.sub (ws' := [(h0, .inr (2, [.ref hs, .ref hi, .ref hm, .int (nI n), .int cf1, .int o, .int ct1, .int ct2, .int co1, .int cf2, .int cg1, .int cb1, .int cn1, .int cn2, .int cr1, .int cr2]))]) [0] rfl) (hK.sub (tys' := []) [] rfl) (hD.sub (ws' := [(h0, .inr (2, [.ref hs, .ref hi, .ref hm, .int (nI n), .int cf1, .int o, .int ct1, .int ct2, .int co1, .int cf2, .int cg1, .int cb1, .int cn1, .int cn2, .int cr1, .int cr2]))]) [0] (by decide) rfl) hS (Nat.le_of_ble_eq_true rfl) (Nat.le_of_ble_eq_true rfl) d_Code_bytesAt_13
def fx_Code_fieldNumber_r (cf2 : Int32) (cn1 : Int32) : Int64 := (if cn1 = 14 then ((cf2 / 8).toInt64) else (if cn1 = 13 then ((cf2 / 8).toInt64) else cf2.toInt64))
def rm_Code_fieldNumber : Room := { frames := 1, cells := 0, slots := 0, locals := 20 }
abbrev q_Code_fieldNumber (D : va_G) (h0 : Nat) (hs : Nat) (hi : Nat) (hm : Nat) (n : Nat) (cf1 : Int32) (o : Int32) (ct1 : Int32) (ct2 : Int32) (co1 : Int32) (cf2 : Int32) (cg1 : Int32) (cb1 : Int32) (cn1 : Int32) (cn2 : Int32) (cr1 : Int32) (cr2 : Int32) (A : Nat → Prop) : Array Value → Jvm.State → Outcome → Jvm.State → Prop := va_Ql (fun (r : Int64) (_ : Unit) => r = (fx_Code_fieldNumber_r cf2 cn1)) (fg_B D A (fun (_ : Unit) => [(h0, .inr (2, [.ref hs, .ref hi, .ref hm, .int (nI n), .int cf1, .int o, .int ct1, .int ct2, .int co1, .int cf2, .int cg1, .int cb1, .int cn1, .int cn2, .int cr1, .int cr2]))]) (fun (_ : Unit) => [])) A
set_option maxHeartbeats 4000000 in
set_option maxRecDepth 100000 in
theorem c_Code_fieldNumber (l : Launch) (D : va_G) (h0 : Nat) (hs : Nat) (hi : Nat) (hm : Nat) (n : Nat) (cf1 : Int32) (o : Int32) (ct1 : Int32) (ct2 : Int32) (co1 : Int32) (cf2 : Int32) (cg1 : Int32) (cb1 : Int32) (cn1 : Int32) (cn2 : Int32) (cr1 : Int32) (cr2 : Int32) (sz : Nat) : Met l y_Code_fieldNumber (fg_w y_Code_fieldNumber prog_4_method_8_code 1 (some .long)) rm_Code_fieldNumber (va_Pc [.ref h0] (fg_P D [] [(h0, .inr (2, [.ref hs, .ref hi, .ref hm, .int (nI n), .int cf1, .int o, .int ct1, .int ct2, .int co1, .int cf2, .int cg1, .int cb1, .int cn1, .int cn2, .int cr1, .int cr2]))] sz)) (q_Code_fieldNumber D h0 hs hi hm n cf1 o ct1 ct2 co1 cf2 cg1 cb1 cn1 cn2 cr1 cr2 (va_A [(h0, .inr (2, [.ref hs, .ref hi, .ref hm, .int (nI n), .int cf1, .int o, .int ct1, .int ct2, .int co1, .int cf2, .int cg1, .int cb1, .int cn1, .int cn2, .int cr1, .int cr2]))] sz)) rm_Code_fieldNumber.cells rm_Code_fieldNumber.slots (va_A [(h0, .inr (2, [.ref hs, .ref hi, .ref hm, .int (nI n), .int cf1, .int o, .int ct1, .int ct2, .int co1, .int cf2, .int cg1, .int cb1, .int cn1, .int cn2, .int cr1, .int cr2]))] sz) := by
  refine fg_enter (fun A => q_Code_fieldNumber D h0 hs hi hm n cf1 o ct1 ct2 co1 cf2 cg1 cb1 cn1 cn2 cr1 cr2 A) (by decide +kernel) (Nat.le_of_ble_eq_true rfl) ?_
  intro p e s m below meth c ls A hx hb hml hown hts hr hlocks hin hP hK hD hS hA hX hl
  have hl : lv_has ls 1 [(0, .ref h0)] := hl
  refine lv_aload_n hx hb d_Code_fieldNumber_0 rfl (lv_at hl 0 rfl) ?_
  refine va_get (D := D) (ci := 2) (v := .int cn1) (C := "FilterGuard$Code") (T := F_Code) (N := 16) hx hb hts i_Code hown hK hP 0 rfl rfl 12 (by decide) (hts _ u_261) (fun _ h9 => h9) rfl d_Code_fieldNumber_1 ?_
  refine lv_bipush (v := 14) hx hb d_Code_fieldNumber_4 (by decide) ?_
  refine lv_icmp_eq (tgt := 18) hx hb d_Code_fieldNumber_6 (by decide) (fun c_1 => ?_) (fun c_1 => ?_)
  · refine lv_aload_n hx hb d_Code_fieldNumber_18 rfl (lv_at hl 0 rfl) ?_
    refine va_get (D := D) (ci := 2) (v := .int cf2) (C := "FilterGuard$Code") (T := F_Code) (N := 16) hx hb hts i_Code hown hK hP 0 rfl rfl 9 (by decide) (hts _ u_247) (fun _ h9 => h9) rfl d_Code_fieldNumber_19 ?_
    refine lv_bipush (v := 8) hx hb d_Code_fieldNumber_22 (by decide) ?_
    refine lv_idiv hx hb d_Code_fieldNumber_24 (by decide) ?_
    refine lv_i2l (v := (cf2 / 8).toInt64) hx hb d_Code_fieldNumber_25 rfl ?_
    refine lv_goto (tgt := 34) hx hb d_Code_fieldNumber_26 (by decide) ?_
    exact fg_retl () hx hb hr hlocks (by unfold fx_Code_fieldNumber_r; (repeat rw [if_pos c_1]); first | done | rfl | contradiction) (hP.sub (ws' := [(h0, .inr (2, [.ref hs, .ref hi, .ref hm, .int (nI n), .int cf1, .int o, .int ct1, .int ct2, .int co1, .int cf2, .int cg1, .int cb1, .int cn1, .int cn2, .int cr1, .int cr2]))]) [0] rfl) (hK.sub (tys' := []) [] rfl) (hD.sub (ws' := [(h0, .inr (2, [.ref hs, .ref hi, .ref hm, .int (nI n), .int cf1, .int o, .int ct1, .int ct2, .int co1, .int cf2, .int cg1, .int cb1, .int cn1, .int cn2, .int cr1, .int cr2]))]) [0] (by decide) rfl) hS (Nat.le_of_ble_eq_true rfl) (Nat.le_of_ble_eq_true rfl) d_Code_fieldNumber_34
  · refine lv_aload_n hx hb d_Code_fieldNumber_9 rfl (lv_at hl 0 rfl) ?_
    refine va_get (D := D) (ci := 2) (v := .int cn1) (C := "FilterGuard$Code") (T := F_Code) (N := 16) hx hb hts i_Code hown hK hP 0 rfl rfl 12 (by decide) (hts _ u_261) (fun _ h9 => h9) rfl d_Code_fieldNumber_10 ?_
    refine lv_bipush (v := 13) hx hb d_Code_fieldNumber_13 (by decide) ?_
    refine lv_icmp_ne (tgt := 29) hx hb d_Code_fieldNumber_15 (by decide) (fun c_2 => ?_) (fun c_2 => ?_)
    · refine lv_aload_n hx hb d_Code_fieldNumber_29 rfl (lv_at hl 0 rfl) ?_
      refine va_get (D := D) (ci := 2) (v := .int cf2) (C := "FilterGuard$Code") (T := F_Code) (N := 16) hx hb hts i_Code hown hK hP 0 rfl rfl 9 (by decide) (hts _ u_247) (fun _ h9 => h9) rfl d_Code_fieldNumber_30 ?_
      refine lv_i2l (v := cf2.toInt64) hx hb d_Code_fieldNumber_33 rfl ?_
      exact fg_retl () hx hb hr hlocks (by unfold fx_Code_fieldNumber_r; (repeat rw [if_neg c_1]); (repeat rw [if_neg c_2]); first | done | rfl | contradiction) (hP.sub (ws' := [(h0, .inr (2, [.ref hs, .ref hi, .ref hm, .int (nI n), .int cf1, .int o, .int ct1, .int ct2, .int co1, .int cf2, .int cg1, .int cb1, .int cn1, .int cn2, .int cr1, .int cr2]))]) [0] rfl) (hK.sub (tys' := []) [] rfl) (hD.sub (ws' := [(h0, .inr (2, [.ref hs, .ref hi, .ref hm, .int (nI n), .int cf1, .int o, .int ct1, .int ct2, .int co1, .int cf2, .int cg1, .int cb1, .int cn1, .int cn2, .int cr1, .int cr2]))]) [0] (by decide) rfl) hS (Nat.le_of_ble_eq_true rfl) (Nat.le_of_ble_eq_true rfl) d_Code_fieldNumber_34
    · refine lv_aload_n hx hb d_Code_fieldNumber_18 rfl (lv_at hl 0 rfl) ?_
      refine va_get (D := D) (ci := 2) (v := .int cf2) (C := "FilterGuard$Code") (T := F_Code) (N := 16) hx hb hts i_Code hown hK hP 0 rfl rfl 9 (by decide) (hts _ u_247) (fun _ h9 => h9) rfl d_Code_fieldNumber_19 ?_
      refine lv_bipush (v := 8) hx hb d_Code_fieldNumber_22 (by decide) ?_
      refine lv_idiv hx hb d_Code_fieldNumber_24 (by decide) ?_
      refine lv_i2l (v := (cf2 / 8).toInt64) hx hb d_Code_fieldNumber_25 rfl ?_
      refine lv_goto (tgt := 34) hx hb d_Code_fieldNumber_26 (by decide) ?_
      exact fg_retl () hx hb hr hlocks (by unfold fx_Code_fieldNumber_r; (repeat rw [if_neg c_1]); (repeat rw [if_pos c_2]); first | done | rfl | contradiction) (hP.sub (ws' := [(h0, .inr (2, [.ref hs, .ref hi, .ref hm, .int (nI n), .int cf1, .int o, .int ct1, .int ct2, .int co1, .int cf2, .int cg1, .int cb1, .int cn1, .int cn2, .int cr1, .int cr2]))]) [0] rfl) (hK.sub (tys' := []) [] rfl) (hD.sub (ws' := [(h0, .inr (2, [.ref hs, .ref hi, .ref hm, .int (nI n), .int cf1, .int o, .int ct1, .int ct2, .int co1, .int cf2, .int cg1, .int cb1, .int cn1, .int cn2, .int cr1, .int cr2]))]) [0] (by decide) rfl) hS (Nat.le_of_ble_eq_true rfl) (Nat.le_of_ble_eq_true rfl) d_Code_fieldNumber_34
def fx_Code_wideNumber_r (n : Nat) (cf2 : Int32) (f : Nat → Int64) (x1 : Int32) : Int64 := (if (nI n) ≤ (x1 + 1) then (0 ||| (cf2.toInt64 &&& 4294967295)) else (((f (x1 + 1).toNatClampNeg) &&& (-4294967296)) ||| (cf2.toInt64 &&& 4294967295)))
def rm_Code_wideNumber : Room := { frames := 1, cells := 0, slots := 0, locals := 20 }
abbrev q_Code_wideNumber (D : va_G) (h0 : Nat) (hs : Nat) (hi : Nat) (hm : Nat) (n : Nat) (cf1 : Int32) (o : Int32) (ct1 : Int32) (ct2 : Int32) (co1 : Int32) (cf2 : Int32) (cg1 : Int32) (cb1 : Int32) (cn1 : Int32) (cn2 : Int32) (cr1 : Int32) (cr2 : Int32) (cs : ClassId) (f : Nat → Int64) (x1 : Int32) (A : Nat → Prop) : Array Value → Jvm.State → Outcome → Jvm.State → Prop := va_Ql (fun (r : Int64) (_ : Unit) => r = (fx_Code_wideNumber_r n cf2 f x1)) (fg_B D A (fun (_ : Unit) => [(h0, .inr (2, [.ref hs, .ref hi, .ref hm, .int (nI n), .int cf1, .int o, .int ct1, .int ct2, .int co1, .int cf2, .int cg1, .int cb1, .int cn1, .int cn2, .int cr1, .int cr2])), (hs, .inl (cs, 2000, .inr (.inl f)))]) (fun (_ : Unit) => [])) A
set_option maxHeartbeats 4000000 in
set_option maxRecDepth 100000 in
theorem c_Code_wideNumber (l : Launch) (D : va_G) (h0 : Nat) (hs : Nat) (hi : Nat) (hm : Nat) (n : Nat) (cf1 : Int32) (o : Int32) (ct1 : Int32) (ct2 : Int32) (co1 : Int32) (cf2 : Int32) (cg1 : Int32) (cb1 : Int32) (cn1 : Int32) (cn2 : Int32) (cr1 : Int32) (cr2 : Int32) (cs : ClassId) (f : Nat → Int64) (x1 : Int32) (sz : Nat) (hn : n ≤ 2000) (hx1 : ¬ x1 + 1 < 0) : Met l y_Code_wideNumber (fg_w y_Code_wideNumber prog_4_method_9_code 4 (some .long)) rm_Code_wideNumber (va_Pc [.ref h0, .int x1] (fg_P D [(cs, .long)] [(h0, .inr (2, [.ref hs, .ref hi, .ref hm, .int (nI n), .int cf1, .int o, .int ct1, .int ct2, .int co1, .int cf2, .int cg1, .int cb1, .int cn1, .int cn2, .int cr1, .int cr2])), (hs, .inl (cs, 2000, .inr (.inl f)))] sz)) (q_Code_wideNumber D h0 hs hi hm n cf1 o ct1 ct2 co1 cf2 cg1 cb1 cn1 cn2 cr1 cr2 cs f x1 (va_A [(h0, .inr (2, [.ref hs, .ref hi, .ref hm, .int (nI n), .int cf1, .int o, .int ct1, .int ct2, .int co1, .int cf2, .int cg1, .int cb1, .int cn1, .int cn2, .int cr1, .int cr2])), (hs, .inl (cs, 2000, .inr (.inl f)))] sz)) rm_Code_wideNumber.cells rm_Code_wideNumber.slots (va_A [(h0, .inr (2, [.ref hs, .ref hi, .ref hm, .int (nI n), .int cf1, .int o, .int ct1, .int ct2, .int co1, .int cf2, .int cg1, .int cb1, .int cn1, .int cn2, .int cr1, .int cr2])), (hs, .inl (cs, 2000, .inr (.inl f)))] sz) := by
  refine fg_enter (fun A => q_Code_wideNumber D h0 hs hi hm n cf1 o ct1 ct2 co1 cf2 cg1 cb1 cn1 cn2 cr1 cr2 cs f x1 A) (by decide +kernel) (Nat.le_of_ble_eq_true rfl) ?_
  intro p e s m below meth c ls A hx hb hml hown hts hr hlocks hin hP hK hD hS hA hX hl
  have hl : lv_has ls 4 [(0, .ref h0), (1, .int x1)] := hl
  refine lv_iload_n hx hb d_Code_wideNumber_0 rfl (lv_at hl 1 rfl) ?_
  refine lv_iconst (v := 1) hx hb d_Code_wideNumber_1 (by decide) ?_
  refine lv_iadd hx hb d_Code_wideNumber_2 ?_
  refine lv_aload_n hx hb d_Code_wideNumber_3 rfl (lv_at hl 0 rfl) ?_
  refine va_get (D := D) (ci := 2) (v := .int (nI n)) (C := "FilterGuard$Code") (T := F_Code) (N := 16) hx hb hts i_Code hown hK hP 0 rfl rfl 3 (by decide) (hts _ u_226) (fun _ h9 => h9) rfl d_Code_wideNumber_4 ?_
  refine lv_icmp_ge (tgt := 25) hx hb d_Code_wideNumber_7 (by decide) (fun c_1 => ?_) (fun c_1 => ?_)
  · refine lv_lconst (v := 0) hx hb d_Code_wideNumber_25 (by decide) ?_
    refine lv_lstore_n (lv' := [(2, .long 0), (0, .ref h0), (1, .int x1)]) hx hb d_Code_wideNumber_26 rfl hl (by decide) rfl (fun ls hl => ?_)
    refine lv_lload_n hx hb d_Code_wideNumber_27 rfl (lv_at hl 0 rfl) ?_
    refine lv_aload_n hx hb d_Code_wideNumber_28 rfl (lv_at hl 1 rfl) ?_
    refine va_get (D := D) (ci := 2) (v := .int cf2) (C := "FilterGuard$Code") (T := F_Code) (N := 16) hx hb hts i_Code hown hK hP 0 rfl rfl 9 (by decide) (hts _ u_247) (fun _ h9 => h9) rfl d_Code_wideNumber_29 ?_
    refine lv_i2l (v := cf2.toInt64) hx hb d_Code_wideNumber_32 rfl ?_
    refine lv_ldc2 hx hb hown (hts _ u_987) d_Code_wideNumber_33 ?_
    refine lv_land hx hb d_Code_wideNumber_36 ?_
    refine lv_lor hx hb d_Code_wideNumber_37 ?_
    exact fg_retl () hx hb hr hlocks (by unfold fx_Code_wideNumber_r; (repeat rw [if_pos c_1]); first | done | rfl | contradiction) (hP.sub (ws' := [(h0, .inr (2, [.ref hs, .ref hi, .ref hm, .int (nI n), .int cf1, .int o, .int ct1, .int ct2, .int co1, .int cf2, .int cg1, .int cb1, .int cn1, .int cn2, .int cr1, .int cr2])), (hs, .inl (cs, 2000, .inr (.inl f)))]) [0, 1] rfl) (hK.sub (tys' := []) [] rfl) (hD.sub (ws' := [(h0, .inr (2, [.ref hs, .ref hi, .ref hm, .int (nI n), .int cf1, .int o, .int ct1, .int ct2, .int co1, .int cf2, .int cg1, .int cb1, .int cn1, .int cn2, .int cr1, .int cr2])), (hs, .inl (cs, 2000, .inr (.inl f)))]) [0, 1] (by decide) rfl) hS (Nat.le_of_ble_eq_true rfl) (Nat.le_of_ble_eq_true rfl) d_Code_wideNumber_38
  · refine lv_aload_n hx hb d_Code_wideNumber_10 rfl (lv_at hl 0 rfl) ?_
    refine va_get (D := D) (ci := 2) (v := .ref hs) (C := "FilterGuard$Code") (T := F_Code) (N := 16) hx hb hts i_Code hown hK hP 0 rfl rfl 0 (by decide) (hts _ u_220) (fun _ h9 => h9) rfl d_Code_wideNumber_11 ?_
    refine lv_iload_n hx hb d_Code_wideNumber_14 rfl (lv_at hl 1 rfl) ?_
    refine lv_iconst (v := 1) hx hb d_Code_wideNumber_15 (by decide) ?_
    refine lv_iadd hx hb d_Code_wideNumber_16 ?_
    refine va_lald hx hb hK hP 1 0 rfl rfl (fd_in hx1 c_1 hn (by decide)) d_Code_wideNumber_17 ?_
    refine lv_ldc2 hx hb hown (hts _ u_1103) d_Code_wideNumber_18 ?_
    refine lv_land hx hb d_Code_wideNumber_21 ?_
    refine lv_goto (tgt := 26) hx hb d_Code_wideNumber_22 (by decide) ?_
    refine lv_lstore_n (lv' := [(2, .long ((f (x1 + 1).toNatClampNeg) &&& (-4294967296))), (0, .ref h0), (1, .int x1)]) hx hb d_Code_wideNumber_26 rfl hl (by decide) rfl (fun ls hl => ?_)
    refine lv_lload_n hx hb d_Code_wideNumber_27 rfl (lv_at hl 0 rfl) ?_
    refine lv_aload_n hx hb d_Code_wideNumber_28 rfl (lv_at hl 1 rfl) ?_
    refine va_get (D := D) (ci := 2) (v := .int cf2) (C := "FilterGuard$Code") (T := F_Code) (N := 16) hx hb hts i_Code hown hK hP 0 rfl rfl 9 (by decide) (hts _ u_247) (fun _ h9 => h9) rfl d_Code_wideNumber_29 ?_
    refine lv_i2l (v := cf2.toInt64) hx hb d_Code_wideNumber_32 rfl ?_
    refine lv_ldc2 hx hb hown (hts _ u_987) d_Code_wideNumber_33 ?_
    refine lv_land hx hb d_Code_wideNumber_36 ?_
    refine lv_lor hx hb d_Code_wideNumber_37 ?_
    exact fg_retl () hx hb hr hlocks (by unfold fx_Code_wideNumber_r; (repeat rw [if_neg c_1]); first | done | rfl | contradiction) (hP.sub (ws' := [(h0, .inr (2, [.ref hs, .ref hi, .ref hm, .int (nI n), .int cf1, .int o, .int ct1, .int ct2, .int co1, .int cf2, .int cg1, .int cb1, .int cn1, .int cn2, .int cr1, .int cr2])), (hs, .inl (cs, 2000, .inr (.inl f)))]) [0, 1] rfl) (hK.sub (tys' := []) [] rfl) (hD.sub (ws' := [(h0, .inr (2, [.ref hs, .ref hi, .ref hm, .int (nI n), .int cf1, .int o, .int ct1, .int ct2, .int co1, .int cf2, .int cg1, .int cb1, .int cn1, .int cn2, .int cr1, .int cr2])), (hs, .inl (cs, 2000, .inr (.inl f)))]) [0, 1] (by decide) rfl) hS (Nat.le_of_ble_eq_true rfl) (Nat.le_of_ble_eq_true rfl) d_Code_wideNumber_38
def fx_Code_behind_r (cg1 : Int32) (x1 : Int32) : Int32 := (if cg1 = 1 then (x1 + 2) else (x1 + 1))
def rm_Code_behind : Room := { frames := 1, cells := 0, slots := 0, locals := 20 }
abbrev q_Code_behind (D : va_G) (h0 : Nat) (hs : Nat) (hi : Nat) (hm : Nat) (n : Nat) (cf1 : Int32) (o : Int32) (ct1 : Int32) (ct2 : Int32) (co1 : Int32) (cf2 : Int32) (cg1 : Int32) (cb1 : Int32) (cn1 : Int32) (cn2 : Int32) (cr1 : Int32) (cr2 : Int32) (x1 : Int32) (A : Nat → Prop) : Array Value → Jvm.State → Outcome → Jvm.State → Prop := va_Qi (fun (r : Int32) (_ : Unit) => r = (fx_Code_behind_r cg1 x1)) (fg_B D A (fun (_ : Unit) => [(h0, .inr (2, [.ref hs, .ref hi, .ref hm, .int (nI n), .int cf1, .int o, .int ct1, .int ct2, .int co1, .int cf2, .int cg1, .int cb1, .int cn1, .int cn2, .int cr1, .int cr2]))]) (fun (_ : Unit) => [])) A
set_option maxHeartbeats 4000000 in
set_option maxRecDepth 100000 in
theorem c_Code_behind (l : Launch) (D : va_G) (h0 : Nat) (hs : Nat) (hi : Nat) (hm : Nat) (n : Nat) (cf1 : Int32) (o : Int32) (ct1 : Int32) (ct2 : Int32) (co1 : Int32) (cf2 : Int32) (cg1 : Int32) (cb1 : Int32) (cn1 : Int32) (cn2 : Int32) (cr1 : Int32) (cr2 : Int32) (x1 : Int32) (sz : Nat) : Met l y_Code_behind (fg_w y_Code_behind prog_4_method_10_code 2 (some .int)) rm_Code_behind (va_Pc [.ref h0, .int x1] (fg_P D [] [(h0, .inr (2, [.ref hs, .ref hi, .ref hm, .int (nI n), .int cf1, .int o, .int ct1, .int ct2, .int co1, .int cf2, .int cg1, .int cb1, .int cn1, .int cn2, .int cr1, .int cr2]))] sz)) (q_Code_behind D h0 hs hi hm n cf1 o ct1 ct2 co1 cf2 cg1 cb1 cn1 cn2 cr1 cr2 x1 (va_A [(h0, .inr (2, [.ref hs, .ref hi, .ref hm, .int (nI n), .int cf1, .int o, .int ct1, .int ct2, .int co1, .int cf2, .int cg1, .int cb1, .int cn1, .int cn2, .int cr1, .int cr2]))] sz)) rm_Code_behind.cells rm_Code_behind.slots (va_A [(h0, .inr (2, [.ref hs, .ref hi, .ref hm, .int (nI n), .int cf1, .int o, .int ct1, .int ct2, .int co1, .int cf2, .int cg1, .int cb1, .int cn1, .int cn2, .int cr1, .int cr2]))] sz) := by
  refine fg_enter (fun A => q_Code_behind D h0 hs hi hm n cf1 o ct1 ct2 co1 cf2 cg1 cb1 cn1 cn2 cr1 cr2 x1 A) (by decide +kernel) (Nat.le_of_ble_eq_true rfl) ?_
  intro p e s m below meth c ls A hx hb hml hown hts hr hlocks hin hP hK hD hS hA hX hl
  have hl : lv_has ls 2 [(0, .ref h0), (1, .int x1)] := hl
  refine lv_iload_n hx hb d_Code_behind_0 rfl (lv_at hl 1 rfl) ?_
  refine lv_aload_n hx hb d_Code_behind_1 rfl (lv_at hl 0 rfl) ?_
  refine va_get (D := D) (ci := 2) (v := .int cg1) (C := "FilterGuard$Code") (T := F_Code) (N := 16) hx hb hts i_Code hown hK hP 0 rfl rfl 10 (by decide) (hts _ u_252) (fun _ h9 => h9) rfl d_Code_behind_2 ?_
  refine lv_iconst (v := 1) hx hb d_Code_behind_5 (by decide) ?_
  refine lv_icmp_ne (tgt := 13) hx hb d_Code_behind_6 (by decide) (fun c_1 => ?_) (fun c_1 => ?_)
  · refine lv_iconst (v := 1) hx hb d_Code_behind_13 (by decide) ?_
    refine lv_iadd hx hb d_Code_behind_14 ?_
    exact fg_reti () hx hb hr hlocks (by unfold fx_Code_behind_r; (repeat rw [if_neg c_1]); first | done | rfl | contradiction) (hP.sub (ws' := [(h0, .inr (2, [.ref hs, .ref hi, .ref hm, .int (nI n), .int cf1, .int o, .int ct1, .int ct2, .int co1, .int cf2, .int cg1, .int cb1, .int cn1, .int cn2, .int cr1, .int cr2]))]) [0] rfl) (hK.sub (tys' := []) [] rfl) (hD.sub (ws' := [(h0, .inr (2, [.ref hs, .ref hi, .ref hm, .int (nI n), .int cf1, .int o, .int ct1, .int ct2, .int co1, .int cf2, .int cg1, .int cb1, .int cn1, .int cn2, .int cr1, .int cr2]))]) [0] (by decide) rfl) hS (Nat.le_of_ble_eq_true rfl) (Nat.le_of_ble_eq_true rfl) d_Code_behind_15
  · refine lv_iconst (v := 2) hx hb d_Code_behind_9 (by decide) ?_
    refine lv_goto (tgt := 14) hx hb d_Code_behind_10 (by decide) ?_
    refine lv_iadd hx hb d_Code_behind_14 ?_
    exact fg_reti () hx hb hr hlocks (by unfold fx_Code_behind_r; (repeat rw [if_pos c_1]); first | done | rfl | contradiction) (hP.sub (ws' := [(h0, .inr (2, [.ref hs, .ref hi, .ref hm, .int (nI n), .int cf1, .int o, .int ct1, .int ct2, .int co1, .int cf2, .int cg1, .int cb1, .int cn1, .int cn2, .int cr1, .int cr2]))]) [0] rfl) (hK.sub (tys' := []) [] rfl) (hD.sub (ws' := [(h0, .inr (2, [.ref hs, .ref hi, .ref hm, .int (nI n), .int cf1, .int o, .int ct1, .int ct2, .int co1, .int cf2, .int cg1, .int cb1, .int cn1, .int cn2, .int cr1, .int cr2]))]) [0] (by decide) rfl) hS (Nat.le_of_ble_eq_true rfl) (Nat.le_of_ble_eq_true rfl) d_Code_behind_15
def fx_Code_target_r (co1 : Int32) (x1 : Int32) : Int32 := ((x1 + 1) + co1)
def rm_Code_target : Room := { frames := 1, cells := 0, slots := 0, locals := 20 }
abbrev q_Code_target (D : va_G) (h0 : Nat) (hs : Nat) (hi : Nat) (hm : Nat) (n : Nat) (cf1 : Int32) (o : Int32) (ct1 : Int32) (ct2 : Int32) (co1 : Int32) (cf2 : Int32) (cg1 : Int32) (cb1 : Int32) (cn1 : Int32) (cn2 : Int32) (cr1 : Int32) (cr2 : Int32) (x1 : Int32) (A : Nat → Prop) : Array Value → Jvm.State → Outcome → Jvm.State → Prop := va_Qi (fun (r : Int32) (_ : Unit) => r = (fx_Code_target_r co1 x1)) (fg_B D A (fun (_ : Unit) => [(h0, .inr (2, [.ref hs, .ref hi, .ref hm, .int (nI n), .int cf1, .int o, .int ct1, .int ct2, .int co1, .int cf2, .int cg1, .int cb1, .int cn1, .int cn2, .int cr1, .int cr2]))]) (fun (_ : Unit) => [])) A
set_option maxHeartbeats 4000000 in
set_option maxRecDepth 100000 in
theorem c_Code_target (l : Launch) (D : va_G) (h0 : Nat) (hs : Nat) (hi : Nat) (hm : Nat) (n : Nat) (cf1 : Int32) (o : Int32) (ct1 : Int32) (ct2 : Int32) (co1 : Int32) (cf2 : Int32) (cg1 : Int32) (cb1 : Int32) (cn1 : Int32) (cn2 : Int32) (cr1 : Int32) (cr2 : Int32) (x1 : Int32) (sz : Nat) : Met l y_Code_target (fg_w y_Code_target prog_4_method_11_code 2 (some .int)) rm_Code_target (va_Pc [.ref h0, .int x1] (fg_P D [] [(h0, .inr (2, [.ref hs, .ref hi, .ref hm, .int (nI n), .int cf1, .int o, .int ct1, .int ct2, .int co1, .int cf2, .int cg1, .int cb1, .int cn1, .int cn2, .int cr1, .int cr2]))] sz)) (q_Code_target D h0 hs hi hm n cf1 o ct1 ct2 co1 cf2 cg1 cb1 cn1 cn2 cr1 cr2 x1 (va_A [(h0, .inr (2, [.ref hs, .ref hi, .ref hm, .int (nI n), .int cf1, .int o, .int ct1, .int ct2, .int co1, .int cf2, .int cg1, .int cb1, .int cn1, .int cn2, .int cr1, .int cr2]))] sz)) rm_Code_target.cells rm_Code_target.slots (va_A [(h0, .inr (2, [.ref hs, .ref hi, .ref hm, .int (nI n), .int cf1, .int o, .int ct1, .int ct2, .int co1, .int cf2, .int cg1, .int cb1, .int cn1, .int cn2, .int cr1, .int cr2]))] sz) := by
  refine fg_enter (fun A => q_Code_target D h0 hs hi hm n cf1 o ct1 ct2 co1 cf2 cg1 cb1 cn1 cn2 cr1 cr2 x1 A) (by decide +kernel) (Nat.le_of_ble_eq_true rfl) ?_
  intro p e s m below meth c ls A hx hb hml hown hts hr hlocks hin hP hK hD hS hA hX hl
  have hl : lv_has ls 2 [(0, .ref h0), (1, .int x1)] := hl
  refine lv_iload_n hx hb d_Code_target_0 rfl (lv_at hl 1 rfl) ?_
  refine lv_iconst (v := 1) hx hb d_Code_target_1 (by decide) ?_
  refine lv_iadd hx hb d_Code_target_2 ?_
  refine lv_aload_n hx hb d_Code_target_3 rfl (lv_at hl 0 rfl) ?_
  refine va_get (D := D) (ci := 2) (v := .int co1) (C := "FilterGuard$Code") (T := F_Code) (N := 16) hx hb hts i_Code hown hK hP 0 rfl rfl 8 (by decide) (hts _ u_242) (fun _ h9 => h9) rfl d_Code_target_4 ?_
  refine lv_iadd hx hb d_Code_target_7 ?_
  exact fg_reti () hx hb hr hlocks (by unfold fx_Code_target_r; first | done | rfl | contradiction) (hP.sub (ws' := [(h0, .inr (2, [.ref hs, .ref hi, .ref hm, .int (nI n), .int cf1, .int o, .int ct1, .int ct2, .int co1, .int cf2, .int cg1, .int cb1, .int cn1, .int cn2, .int cr1, .int cr2]))]) [0] rfl) (hK.sub (tys' := []) [] rfl) (hD.sub (ws' := [(h0, .inr (2, [.ref hs, .ref hi, .ref hm, .int (nI n), .int cf1, .int o, .int ct1, .int ct2, .int co1, .int cf2, .int cg1, .int cb1, .int cn1, .int cn2, .int cr1, .int cr2]))]) [0] (by decide) rfl) hS (Nat.le_of_ble_eq_true rfl) (Nat.le_of_ble_eq_true rfl) d_Code_target_8
def fx_Code_isMarkAt_r (n : Nat) (g3 : Nat → Int32) (x1 : Int32) : Int32 := (if x1 < 0 then 0 else (if (nI n) ≤ x1 then 0 else (if (g3 x1.toNatClampNeg) = 0 then 0 else 1)))
def rm_Code_isMarkAt : Room := { frames := 1, cells := 0, slots := 0, locals := 20 }
abbrev q_Code_isMarkAt (D : va_G) (h0 : Nat) (hs : Nat) (hi : Nat) (hm : Nat) (n : Nat) (cf1 : Int32) (o : Int32) (ct1 : Int32) (ct2 : Int32) (co1 : Int32) (cf2 : Int32) (cg1 : Int32) (cb1 : Int32) (cn1 : Int32) (cn2 : Int32) (cr1 : Int32) (cr2 : Int32) (c3 : ClassId) (g3 : Nat → Int32) (x1 : Int32) (A : Nat → Prop) : Array Value → Jvm.State → Outcome → Jvm.State → Prop := va_Qi (fun (r : Int32) (_ : Unit) => r = (fx_Code_isMarkAt_r n g3 x1) ∧ (r = 1 ∨ r = 0)) (fg_B D A (fun (_ : Unit) => [(h0, .inr (2, [.ref hs, .ref hi, .ref hm, .int (nI n), .int cf1, .int o, .int ct1, .int ct2, .int co1, .int cf2, .int cg1, .int cb1, .int cn1, .int cn2, .int cr1, .int cr2])), (hm, .inl (c3, 2000, .inl g3))]) (fun (_ : Unit) => [])) A
set_option maxHeartbeats 4000000 in
set_option maxRecDepth 100000 in
theorem c_Code_isMarkAt (l : Launch) (D : va_G) (h0 : Nat) (hs : Nat) (hi : Nat) (hm : Nat) (n : Nat) (cf1 : Int32) (o : Int32) (ct1 : Int32) (ct2 : Int32) (co1 : Int32) (cf2 : Int32) (cg1 : Int32) (cb1 : Int32) (cn1 : Int32) (cn2 : Int32) (cr1 : Int32) (cr2 : Int32) (c3 : ClassId) (g3 : Nat → Int32) (x1 : Int32) (sz : Nat) (hn : n ≤ 2000) : Met l y_Code_isMarkAt (fg_w y_Code_isMarkAt prog_4_method_12_code 2 (some .boolean)) rm_Code_isMarkAt (va_Pc [.ref h0, .int x1] (fg_P D [(c3, .boolean)] [(h0, .inr (2, [.ref hs, .ref hi, .ref hm, .int (nI n), .int cf1, .int o, .int ct1, .int ct2, .int co1, .int cf2, .int cg1, .int cb1, .int cn1, .int cn2, .int cr1, .int cr2])), (hm, .inl (c3, 2000, .inl g3))] sz)) (q_Code_isMarkAt D h0 hs hi hm n cf1 o ct1 ct2 co1 cf2 cg1 cb1 cn1 cn2 cr1 cr2 c3 g3 x1 (va_A [(h0, .inr (2, [.ref hs, .ref hi, .ref hm, .int (nI n), .int cf1, .int o, .int ct1, .int ct2, .int co1, .int cf2, .int cg1, .int cb1, .int cn1, .int cn2, .int cr1, .int cr2])), (hm, .inl (c3, 2000, .inl g3))] sz)) rm_Code_isMarkAt.cells rm_Code_isMarkAt.slots (va_A [(h0, .inr (2, [.ref hs, .ref hi, .ref hm, .int (nI n), .int cf1, .int o, .int ct1, .int ct2, .int co1, .int cf2, .int cg1, .int cb1, .int cn1, .int cn2, .int cr1, .int cr2])), (hm, .inl (c3, 2000, .inl g3))] sz) := by
  refine fg_enter (fun A => q_Code_isMarkAt D h0 hs hi hm n cf1 o ct1 ct2 co1 cf2 cg1 cb1 cn1 cn2 cr1 cr2 c3 g3 x1 A) (by decide +kernel) (Nat.le_of_ble_eq_true rfl) ?_
  intro p e s m below meth c ls A hx hb hml hown hts hr hlocks hin hP hK hD hS hA hX hl
  have hl : lv_has ls 2 [(0, .ref h0), (1, .int x1)] := hl
  refine lv_iload_n hx hb d_Code_isMarkAt_0 rfl (lv_at hl 1 rfl) ?_
  refine lv_if_lt (tgt := 25) hx hb d_Code_isMarkAt_1 (by decide) (fun c_1 => ?_) (fun c_1 => ?_)
  · refine lv_iconst (v := 0) hx hb d_Code_isMarkAt_25 (by decide) ?_
    exact fg_retz () hx hb hr hlocks rfl ⟨(by unfold fx_Code_isMarkAt_r; (repeat rw [if_pos c_1]); first | done | rfl | contradiction), (Or.inr rfl)⟩ (hP.sub (ws' := [(h0, .inr (2, [.ref hs, .ref hi, .ref hm, .int (nI n), .int cf1, .int o, .int ct1, .int ct2, .int co1, .int cf2, .int cg1, .int cb1, .int cn1, .int cn2, .int cr1, .int cr2])), (hm, .inl (c3, 2000, .inl g3))]) [0, 1] rfl) (hK.sub (tys' := []) [] rfl) (hD.sub (ws' := [(h0, .inr (2, [.ref hs, .ref hi, .ref hm, .int (nI n), .int cf1, .int o, .int ct1, .int ct2, .int co1, .int cf2, .int cg1, .int cb1, .int cn1, .int cn2, .int cr1, .int cr2])), (hm, .inl (c3, 2000, .inl g3))]) [0, 1] (by decide) rfl) hS (Nat.le_of_ble_eq_true rfl) (Nat.le_of_ble_eq_true rfl) d_Code_isMarkAt_26
  · refine lv_iload_n hx hb d_Code_isMarkAt_4 rfl (lv_at hl 1 rfl) ?_
    refine lv_aload_n hx hb d_Code_isMarkAt_5 rfl (lv_at hl 0 rfl) ?_
    refine va_get (D := D) (ci := 2) (v := .int (nI n)) (C := "FilterGuard$Code") (T := F_Code) (N := 16) hx hb hts i_Code hown hK hP 0 rfl rfl 3 (by decide) (hts _ u_226) (fun _ h9 => h9) rfl d_Code_isMarkAt_6 ?_
    refine lv_icmp_ge (tgt := 25) hx hb d_Code_isMarkAt_9 (by decide) (fun c_2 => ?_) (fun c_2 => ?_)
    · refine lv_iconst (v := 0) hx hb d_Code_isMarkAt_25 (by decide) ?_
      exact fg_retz () hx hb hr hlocks rfl ⟨(by unfold fx_Code_isMarkAt_r; (repeat rw [if_neg c_1]); (repeat rw [if_pos c_2]); first | done | rfl | contradiction), (Or.inr rfl)⟩ (hP.sub (ws' := [(h0, .inr (2, [.ref hs, .ref hi, .ref hm, .int (nI n), .int cf1, .int o, .int ct1, .int ct2, .int co1, .int cf2, .int cg1, .int cb1, .int cn1, .int cn2, .int cr1, .int cr2])), (hm, .inl (c3, 2000, .inl g3))]) [0, 1] rfl) (hK.sub (tys' := []) [] rfl) (hD.sub (ws' := [(h0, .inr (2, [.ref hs, .ref hi, .ref hm, .int (nI n), .int cf1, .int o, .int ct1, .int ct2, .int co1, .int cf2, .int cg1, .int cb1, .int cn1, .int cn2, .int cr1, .int cr2])), (hm, .inl (c3, 2000, .inl g3))]) [0, 1] (by decide) rfl) hS (Nat.le_of_ble_eq_true rfl) (Nat.le_of_ble_eq_true rfl) d_Code_isMarkAt_26
    · refine lv_aload_n hx hb d_Code_isMarkAt_12 rfl (lv_at hl 0 rfl) ?_
      refine va_get (D := D) (ci := 2) (v := .ref hm) (C := "FilterGuard$Code") (T := F_Code) (N := 16) hx hb hts i_Code hown hK hP 0 rfl rfl 2 (by decide) (hts _ u_225) (fun _ h9 => h9) rfl d_Code_isMarkAt_13 ?_
      refine lv_iload_n hx hb d_Code_isMarkAt_16 rfl (lv_at hl 1 rfl) ?_
      refine va_zald hx hb hK hP 1 0 rfl rfl (fd_in c_1 c_2 hn (by decide)) d_Code_isMarkAt_17 ?_
      refine lv_if_eq (tgt := 25) hx hb d_Code_isMarkAt_18 (by decide) (fun c_3 => ?_) (fun c_3 => ?_)
      · refine lv_iconst (v := 0) hx hb d_Code_isMarkAt_25 (by decide) ?_
        exact fg_retz () hx hb hr hlocks rfl ⟨(by unfold fx_Code_isMarkAt_r; (repeat rw [if_neg c_1]); (repeat rw [if_neg c_2]); (repeat rw [if_pos c_3]); first | done | rfl | contradiction), (Or.inr rfl)⟩ (hP.sub (ws' := [(h0, .inr (2, [.ref hs, .ref hi, .ref hm, .int (nI n), .int cf1, .int o, .int ct1, .int ct2, .int co1, .int cf2, .int cg1, .int cb1, .int cn1, .int cn2, .int cr1, .int cr2])), (hm, .inl (c3, 2000, .inl g3))]) [0, 1] rfl) (hK.sub (tys' := []) [] rfl) (hD.sub (ws' := [(h0, .inr (2, [.ref hs, .ref hi, .ref hm, .int (nI n), .int cf1, .int o, .int ct1, .int ct2, .int co1, .int cf2, .int cg1, .int cb1, .int cn1, .int cn2, .int cr1, .int cr2])), (hm, .inl (c3, 2000, .inl g3))]) [0, 1] (by decide) rfl) hS (Nat.le_of_ble_eq_true rfl) (Nat.le_of_ble_eq_true rfl) d_Code_isMarkAt_26
      · refine lv_iconst (v := 1) hx hb d_Code_isMarkAt_21 (by decide) ?_
        refine lv_goto (tgt := 26) hx hb d_Code_isMarkAt_22 (by decide) ?_
        exact fg_retz () hx hb hr hlocks rfl ⟨(by unfold fx_Code_isMarkAt_r; (repeat rw [if_neg c_1]); (repeat rw [if_neg c_2]); (repeat rw [if_neg c_3]); first | done | rfl | contradiction), (Or.inl rfl)⟩ (hP.sub (ws' := [(h0, .inr (2, [.ref hs, .ref hi, .ref hm, .int (nI n), .int cf1, .int o, .int ct1, .int ct2, .int co1, .int cf2, .int cg1, .int cb1, .int cn1, .int cn2, .int cr1, .int cr2])), (hm, .inl (c3, 2000, .inl g3))]) [0, 1] rfl) (hK.sub (tys' := []) [] rfl) (hD.sub (ws' := [(h0, .inr (2, [.ref hs, .ref hi, .ref hm, .int (nI n), .int cf1, .int o, .int ct1, .int ct2, .int co1, .int cf2, .int cg1, .int cb1, .int cn1, .int cn2, .int cr1, .int cr2])), (hm, .inl (c3, 2000, .inl g3))]) [0, 1] (by decide) rfl) hS (Nat.le_of_ble_eq_true rfl) (Nat.le_of_ble_eq_true rfl) d_Code_isMarkAt_26
def fx_Code_isJump_r (cg1 : Int32) : Int32 := (if cg1 = 7 then 1 else (if cg1 = 8 then 1 else 0))
def rm_Code_isJump : Room := { frames := 1, cells := 0, slots := 0, locals := 20 }
abbrev q_Code_isJump (D : va_G) (h0 : Nat) (hs : Nat) (hi : Nat) (hm : Nat) (n : Nat) (cf1 : Int32) (o : Int32) (ct1 : Int32) (ct2 : Int32) (co1 : Int32) (cf2 : Int32) (cg1 : Int32) (cb1 : Int32) (cn1 : Int32) (cn2 : Int32) (cr1 : Int32) (cr2 : Int32) (A : Nat → Prop) : Array Value → Jvm.State → Outcome → Jvm.State → Prop := va_Qi (fun (r : Int32) (_ : Unit) => r = (fx_Code_isJump_r cg1) ∧ (r = 1 ∨ r = 0)) (fg_B D A (fun (_ : Unit) => [(h0, .inr (2, [.ref hs, .ref hi, .ref hm, .int (nI n), .int cf1, .int o, .int ct1, .int ct2, .int co1, .int cf2, .int cg1, .int cb1, .int cn1, .int cn2, .int cr1, .int cr2]))]) (fun (_ : Unit) => [])) A
set_option maxHeartbeats 4000000 in
set_option maxRecDepth 100000 in
theorem c_Code_isJump (l : Launch) (D : va_G) (h0 : Nat) (hs : Nat) (hi : Nat) (hm : Nat) (n : Nat) (cf1 : Int32) (o : Int32) (ct1 : Int32) (ct2 : Int32) (co1 : Int32) (cf2 : Int32) (cg1 : Int32) (cb1 : Int32) (cn1 : Int32) (cn2 : Int32) (cr1 : Int32) (cr2 : Int32) (sz : Nat) : Met l y_Code_isJump (fg_w y_Code_isJump prog_4_method_13_code 1 (some .boolean)) rm_Code_isJump (va_Pc [.ref h0] (fg_P D [] [(h0, .inr (2, [.ref hs, .ref hi, .ref hm, .int (nI n), .int cf1, .int o, .int ct1, .int ct2, .int co1, .int cf2, .int cg1, .int cb1, .int cn1, .int cn2, .int cr1, .int cr2]))] sz)) (q_Code_isJump D h0 hs hi hm n cf1 o ct1 ct2 co1 cf2 cg1 cb1 cn1 cn2 cr1 cr2 (va_A [(h0, .inr (2, [.ref hs, .ref hi, .ref hm, .int (nI n), .int cf1, .int o, .int ct1, .int ct2, .int co1, .int cf2, .int cg1, .int cb1, .int cn1, .int cn2, .int cr1, .int cr2]))] sz)) rm_Code_isJump.cells rm_Code_isJump.slots (va_A [(h0, .inr (2, [.ref hs, .ref hi, .ref hm, .int (nI n), .int cf1, .int o, .int ct1, .int ct2, .int co1, .int cf2, .int cg1, .int cb1, .int cn1, .int cn2, .int cr1, .int cr2]))] sz) := by
  refine fg_enter (fun A => q_Code_isJump D h0 hs hi hm n cf1 o ct1 ct2 co1 cf2 cg1 cb1 cn1 cn2 cr1 cr2 A) (by decide +kernel) (Nat.le_of_ble_eq_true rfl) ?_
  intro p e s m below meth c ls A hx hb hml hown hts hr hlocks hin hP hK hD hS hA hX hl
  have hl : lv_has ls 1 [(0, .ref h0)] := hl
  refine lv_aload_n hx hb d_Code_isJump_0 rfl (lv_at hl 0 rfl) ?_
  refine va_get (D := D) (ci := 2) (v := .int cg1) (C := "FilterGuard$Code") (T := F_Code) (N := 16) hx hb hts i_Code hown hK hP 0 rfl rfl 10 (by decide) (hts _ u_252) (fun _ h9 => h9) rfl d_Code_isJump_1 ?_
  refine lv_bipush (v := 7) hx hb d_Code_isJump_4 (by decide) ?_
  refine lv_icmp_eq (tgt := 18) hx hb d_Code_isJump_6 (by decide) (fun c_1 => ?_) (fun c_1 => ?_)
  · refine lv_iconst (v := 1) hx hb d_Code_isJump_18 (by decide) ?_
    refine lv_goto (tgt := 23) hx hb d_Code_isJump_19 (by decide) ?_
    exact fg_retz () hx hb hr hlocks rfl ⟨(by unfold fx_Code_isJump_r; (repeat rw [if_pos c_1]); first | done | rfl | contradiction), (Or.inl rfl)⟩ (hP.sub (ws' := [(h0, .inr (2, [.ref hs, .ref hi, .ref hm, .int (nI n), .int cf1, .int o, .int ct1, .int ct2, .int co1, .int cf2, .int cg1, .int cb1, .int cn1, .int cn2, .int cr1, .int cr2]))]) [0] rfl) (hK.sub (tys' := []) [] rfl) (hD.sub (ws' := [(h0, .inr (2, [.ref hs, .ref hi, .ref hm, .int (nI n), .int cf1, .int o, .int ct1, .int ct2, .int co1, .int cf2, .int cg1, .int cb1, .int cn1, .int cn2, .int cr1, .int cr2]))]) [0] (by decide) rfl) hS (Nat.le_of_ble_eq_true rfl) (Nat.le_of_ble_eq_true rfl) d_Code_isJump_23
  · refine lv_aload_n hx hb d_Code_isJump_9 rfl (lv_at hl 0 rfl) ?_
    refine va_get (D := D) (ci := 2) (v := .int cg1) (C := "FilterGuard$Code") (T := F_Code) (N := 16) hx hb hts i_Code hown hK hP 0 rfl rfl 10 (by decide) (hts _ u_252) (fun _ h9 => h9) rfl d_Code_isJump_10 ?_
    refine lv_bipush (v := 8) hx hb d_Code_isJump_13 (by decide) ?_
    refine lv_icmp_ne (tgt := 22) hx hb d_Code_isJump_15 (by decide) (fun c_2 => ?_) (fun c_2 => ?_)
    · refine lv_iconst (v := 0) hx hb d_Code_isJump_22 (by decide) ?_
      exact fg_retz () hx hb hr hlocks rfl ⟨(by unfold fx_Code_isJump_r; (repeat rw [if_neg c_1]); (repeat rw [if_neg c_2]); first | done | rfl | contradiction), (Or.inr rfl)⟩ (hP.sub (ws' := [(h0, .inr (2, [.ref hs, .ref hi, .ref hm, .int (nI n), .int cf1, .int o, .int ct1, .int ct2, .int co1, .int cf2, .int cg1, .int cb1, .int cn1, .int cn2, .int cr1, .int cr2]))]) [0] rfl) (hK.sub (tys' := []) [] rfl) (hD.sub (ws' := [(h0, .inr (2, [.ref hs, .ref hi, .ref hm, .int (nI n), .int cf1, .int o, .int ct1, .int ct2, .int co1, .int cf2, .int cg1, .int cb1, .int cn1, .int cn2, .int cr1, .int cr2]))]) [0] (by decide) rfl) hS (Nat.le_of_ble_eq_true rfl) (Nat.le_of_ble_eq_true rfl) d_Code_isJump_23
    · refine lv_iconst (v := 1) hx hb d_Code_isJump_18 (by decide) ?_
      refine lv_goto (tgt := 23) hx hb d_Code_isJump_19 (by decide) ?_
      exact fg_retz () hx hb hr hlocks rfl ⟨(by unfold fx_Code_isJump_r; (repeat rw [if_neg c_1]); (repeat rw [if_pos c_2]); first | done | rfl | contradiction), (Or.inl rfl)⟩ (hP.sub (ws' := [(h0, .inr (2, [.ref hs, .ref hi, .ref hm, .int (nI n), .int cf1, .int o, .int ct1, .int ct2, .int co1, .int cf2, .int cg1, .int cb1, .int cn1, .int cn2, .int cr1, .int cr2]))]) [0] rfl) (hK.sub (tys' := []) [] rfl) (hD.sub (ws' := [(h0, .inr (2, [.ref hs, .ref hi, .ref hm, .int (nI n), .int cf1, .int o, .int ct1, .int ct2, .int co1, .int cf2, .int cg1, .int cb1, .int cn1, .int cn2, .int cr1, .int cr2]))]) [0] (by decide) rfl) hS (Nat.le_of_ble_eq_true rfl) (Nat.le_of_ble_eq_true rfl) d_Code_isJump_23
def fx_Code_isOneOperand_r (ct2 : Int32) (cf2 : Int32) (cr2 : Int32) : Int32 := (if cr2 = 0 then (if ct2 = 0 then 1 else 0) else (if cf2 = 0 then 1 else 0))
def rm_Code_isOneOperand : Room := { frames := 1, cells := 0, slots := 0, locals := 20 }
abbrev q_Code_isOneOperand (D : va_G) (h0 : Nat) (hs : Nat) (hi : Nat) (hm : Nat) (n : Nat) (cf1 : Int32) (o : Int32) (ct1 : Int32) (ct2 : Int32) (co1 : Int32) (cf2 : Int32) (cg1 : Int32) (cb1 : Int32) (cn1 : Int32) (cn2 : Int32) (cr1 : Int32) (cr2 : Int32) (A : Nat → Prop) : Array Value → Jvm.State → Outcome → Jvm.State → Prop := va_Qi (fun (r : Int32) (_ : Unit) => r = (fx_Code_isOneOperand_r ct2 cf2 cr2) ∧ (r = 1 ∨ r = 0)) (fg_B D A (fun (_ : Unit) => [(h0, .inr (2, [.ref hs, .ref hi, .ref hm, .int (nI n), .int cf1, .int o, .int ct1, .int ct2, .int co1, .int cf2, .int cg1, .int cb1, .int cn1, .int cn2, .int cr1, .int cr2]))]) (fun (_ : Unit) => [])) A
set_option maxHeartbeats 4000000 in
set_option maxRecDepth 100000 in
theorem c_Code_isOneOperand (l : Launch) (D : va_G) (h0 : Nat) (hs : Nat) (hi : Nat) (hm : Nat) (n : Nat) (cf1 : Int32) (o : Int32) (ct1 : Int32) (ct2 : Int32) (co1 : Int32) (cf2 : Int32) (cg1 : Int32) (cb1 : Int32) (cn1 : Int32) (cn2 : Int32) (cr1 : Int32) (cr2 : Int32) (sz : Nat) : Met l y_Code_isOneOperand (fg_w y_Code_isOneOperand prog_4_method_19_code 1 (some .boolean)) rm_Code_isOneOperand (va_Pc [.ref h0] (fg_P D [] [(h0, .inr (2, [.ref hs, .ref hi, .ref hm, .int (nI n), .int cf1, .int o, .int ct1, .int ct2, .int co1, .int cf2, .int cg1, .int cb1, .int cn1, .int cn2, .int cr1, .int cr2]))] sz)) (q_Code_isOneOperand D h0 hs hi hm n cf1 o ct1 ct2 co1 cf2 cg1 cb1 cn1 cn2 cr1 cr2 (va_A [(h0, .inr (2, [.ref hs, .ref hi, .ref hm, .int (nI n), .int cf1, .int o, .int ct1, .int ct2, .int co1, .int cf2, .int cg1, .int cb1, .int cn1, .int cn2, .int cr1, .int cr2]))] sz)) rm_Code_isOneOperand.cells rm_Code_isOneOperand.slots (va_A [(h0, .inr (2, [.ref hs, .ref hi, .ref hm, .int (nI n), .int cf1, .int o, .int ct1, .int ct2, .int co1, .int cf2, .int cg1, .int cb1, .int cn1, .int cn2, .int cr1, .int cr2]))] sz) := by
  refine fg_enter (fun A => q_Code_isOneOperand D h0 hs hi hm n cf1 o ct1 ct2 co1 cf2 cg1 cb1 cn1 cn2 cr1 cr2 A) (by decide +kernel) (Nat.le_of_ble_eq_true rfl) ?_
  intro p e s m below meth c ls A hx hb hml hown hts hr hlocks hin hP hK hD hS hA hX hl
  have hl : lv_has ls 1 [(0, .ref h0)] := hl
  refine lv_aload_n hx hb d_Code_isOneOperand_0 rfl (lv_at hl 0 rfl) ?_
  refine va_get (D := D) (ci := 2) (v := .int cr2) (C := "FilterGuard$Code") (T := F_Code) (N := 16) hx hb hts i_Code hown hK hP 0 rfl rfl 15 (by decide) (hts _ u_273) (fun _ h9 => h9) rfl d_Code_isOneOperand_1 ?_
  refine lv_if_eq (tgt := 22) hx hb d_Code_isOneOperand_4 (by decide) (fun c_1 => ?_) (fun c_1 => ?_)
  · refine lv_aload_n hx hb d_Code_isOneOperand_22 rfl (lv_at hl 0 rfl) ?_
    refine va_get (D := D) (ci := 2) (v := .int ct2) (C := "FilterGuard$Code") (T := F_Code) (N := 16) hx hb hts i_Code hown hK hP 0 rfl rfl 7 (by decide) (hts _ u_238) (fun _ h9 => h9) rfl d_Code_isOneOperand_23 ?_
    refine lv_if_ne (tgt := 33) hx hb d_Code_isOneOperand_26 (by decide) (fun c_2 => ?_) (fun c_2 => ?_)
    · refine lv_iconst (v := 0) hx hb d_Code_isOneOperand_33 (by decide) ?_
      exact fg_retz () hx hb hr hlocks rfl ⟨(by unfold fx_Code_isOneOperand_r; (repeat rw [if_pos c_1]); (repeat rw [if_neg c_2]); first | done | rfl | contradiction), (Or.inr rfl)⟩ (hP.sub (ws' := [(h0, .inr (2, [.ref hs, .ref hi, .ref hm, .int (nI n), .int cf1, .int o, .int ct1, .int ct2, .int co1, .int cf2, .int cg1, .int cb1, .int cn1, .int cn2, .int cr1, .int cr2]))]) [0] rfl) (hK.sub (tys' := []) [] rfl) (hD.sub (ws' := [(h0, .inr (2, [.ref hs, .ref hi, .ref hm, .int (nI n), .int cf1, .int o, .int ct1, .int ct2, .int co1, .int cf2, .int cg1, .int cb1, .int cn1, .int cn2, .int cr1, .int cr2]))]) [0] (by decide) rfl) hS (Nat.le_of_ble_eq_true rfl) (Nat.le_of_ble_eq_true rfl) d_Code_isOneOperand_34
    · refine lv_iconst (v := 1) hx hb d_Code_isOneOperand_29 (by decide) ?_
      refine lv_goto (tgt := 34) hx hb d_Code_isOneOperand_30 (by decide) ?_
      exact fg_retz () hx hb hr hlocks rfl ⟨(by unfold fx_Code_isOneOperand_r; (repeat rw [if_pos c_1]); (repeat rw [if_pos c_2]); first | done | rfl | contradiction), (Or.inl rfl)⟩ (hP.sub (ws' := [(h0, .inr (2, [.ref hs, .ref hi, .ref hm, .int (nI n), .int cf1, .int o, .int ct1, .int ct2, .int co1, .int cf2, .int cg1, .int cb1, .int cn1, .int cn2, .int cr1, .int cr2]))]) [0] rfl) (hK.sub (tys' := []) [] rfl) (hD.sub (ws' := [(h0, .inr (2, [.ref hs, .ref hi, .ref hm, .int (nI n), .int cf1, .int o, .int ct1, .int ct2, .int co1, .int cf2, .int cg1, .int cb1, .int cn1, .int cn2, .int cr1, .int cr2]))]) [0] (by decide) rfl) hS (Nat.le_of_ble_eq_true rfl) (Nat.le_of_ble_eq_true rfl) d_Code_isOneOperand_34
  · refine lv_aload_n hx hb d_Code_isOneOperand_7 rfl (lv_at hl 0 rfl) ?_
    refine va_get (D := D) (ci := 2) (v := .int cf2) (C := "FilterGuard$Code") (T := F_Code) (N := 16) hx hb hts i_Code hown hK hP 0 rfl rfl 9 (by decide) (hts _ u_247) (fun _ h9 => h9) rfl d_Code_isOneOperand_8 ?_
    refine lv_if_ne (tgt := 18) hx hb d_Code_isOneOperand_11 (by decide) (fun c_3 => ?_) (fun c_3 => ?_)
    · refine lv_iconst (v := 0) hx hb d_Code_isOneOperand_18 (by decide) ?_
      refine lv_goto (tgt := 34) hx hb d_Code_isOneOperand_19 (by decide) ?_
      exact fg_retz () hx hb hr hlocks rfl ⟨(by unfold fx_Code_isOneOperand_r; (repeat rw [if_neg c_1]); (repeat rw [if_neg c_3]); first | done | rfl | contradiction), (Or.inr rfl)⟩ (hP.sub (ws' := [(h0, .inr (2, [.ref hs, .ref hi, .ref hm, .int (nI n), .int cf1, .int o, .int ct1, .int ct2, .int co1, .int cf2, .int cg1, .int cb1, .int cn1, .int cn2, .int cr1, .int cr2]))]) [0] rfl) (hK.sub (tys' := []) [] rfl) (hD.sub (ws' := [(h0, .inr (2, [.ref hs, .ref hi, .ref hm, .int (nI n), .int cf1, .int o, .int ct1, .int ct2, .int co1, .int cf2, .int cg1, .int cb1, .int cn1, .int cn2, .int cr1, .int cr2]))]) [0] (by decide) rfl) hS (Nat.le_of_ble_eq_true rfl) (Nat.le_of_ble_eq_true rfl) d_Code_isOneOperand_34
    · refine lv_iconst (v := 1) hx hb d_Code_isOneOperand_14 (by decide) ?_
      refine lv_goto (tgt := 34) hx hb d_Code_isOneOperand_15 (by decide) ?_
      exact fg_retz () hx hb hr hlocks rfl ⟨(by unfold fx_Code_isOneOperand_r; (repeat rw [if_neg c_1]); (repeat rw [if_pos c_3]); first | done | rfl | contradiction), (Or.inl rfl)⟩ (hP.sub (ws' := [(h0, .inr (2, [.ref hs, .ref hi, .ref hm, .int (nI n), .int cf1, .int o, .int ct1, .int ct2, .int co1, .int cf2, .int cg1, .int cb1, .int cn1, .int cn2, .int cr1, .int cr2]))]) [0] rfl) (hK.sub (tys' := []) [] rfl) (hD.sub (ws' := [(h0, .inr (2, [.ref hs, .ref hi, .ref hm, .int (nI n), .int cf1, .int o, .int ct1, .int ct2, .int co1, .int cf2, .int cg1, .int cb1, .int cn1, .int cn2, .int cr1, .int cr2]))]) [0] (by decide) rfl) hS (Nat.le_of_ble_eq_true rfl) (Nat.le_of_ble_eq_true rfl) d_Code_isOneOperand_34
def fx_Code_isFieldShaped_r (cf2 : Int32) (cn1 : Int32) : Int32 := (if cn1 = 14 then (if cf2 = 16 then 1 else (if cf2 = 32 then 1 else (if cf2 = 64 then 1 else 0))) else (if cn1 = 13 then (if cf2 = 16 then 1 else (if cf2 = 32 then 1 else (if cf2 = 64 then 1 else 0))) else (if cn1 = 11 then (if cf2 = 0 then 1 else 0) else 1)))
def rm_Code_isFieldShaped : Room := { frames := 1, cells := 0, slots := 0, locals := 20 }
abbrev q_Code_isFieldShaped (D : va_G) (h0 : Nat) (hs : Nat) (hi : Nat) (hm : Nat) (n : Nat) (cf1 : Int32) (o : Int32) (ct1 : Int32) (ct2 : Int32) (co1 : Int32) (cf2 : Int32) (cg1 : Int32) (cb1 : Int32) (cn1 : Int32) (cn2 : Int32) (cr1 : Int32) (cr2 : Int32) (A : Nat → Prop) : Array Value → Jvm.State → Outcome → Jvm.State → Prop := va_Qi (fun (r : Int32) (_ : Unit) => r = (fx_Code_isFieldShaped_r cf2 cn1) ∧ (r = 1 ∨ r = 0)) (fg_B D A (fun (_ : Unit) => [(h0, .inr (2, [.ref hs, .ref hi, .ref hm, .int (nI n), .int cf1, .int o, .int ct1, .int ct2, .int co1, .int cf2, .int cg1, .int cb1, .int cn1, .int cn2, .int cr1, .int cr2]))]) (fun (_ : Unit) => [])) A
set_option maxHeartbeats 4000000 in
set_option maxRecDepth 100000 in
theorem c_Code_isFieldShaped (l : Launch) (D : va_G) (h0 : Nat) (hs : Nat) (hi : Nat) (hm : Nat) (n : Nat) (cf1 : Int32) (o : Int32) (ct1 : Int32) (ct2 : Int32) (co1 : Int32) (cf2 : Int32) (cg1 : Int32) (cb1 : Int32) (cn1 : Int32) (cn2 : Int32) (cr1 : Int32) (cr2 : Int32) (sz : Nat) : Met l y_Code_isFieldShaped (fg_w y_Code_isFieldShaped prog_4_method_20_code 1 (some .boolean)) rm_Code_isFieldShaped (va_Pc [.ref h0] (fg_P D [] [(h0, .inr (2, [.ref hs, .ref hi, .ref hm, .int (nI n), .int cf1, .int o, .int ct1, .int ct2, .int co1, .int cf2, .int cg1, .int cb1, .int cn1, .int cn2, .int cr1, .int cr2]))] sz)) (q_Code_isFieldShaped D h0 hs hi hm n cf1 o ct1 ct2 co1 cf2 cg1 cb1 cn1 cn2 cr1 cr2 (va_A [(h0, .inr (2, [.ref hs, .ref hi, .ref hm, .int (nI n), .int cf1, .int o, .int ct1, .int ct2, .int co1, .int cf2, .int cg1, .int cb1, .int cn1, .int cn2, .int cr1, .int cr2]))] sz)) rm_Code_isFieldShaped.cells rm_Code_isFieldShaped.slots (va_A [(h0, .inr (2, [.ref hs, .ref hi, .ref hm, .int (nI n), .int cf1, .int o, .int ct1, .int ct2, .int co1, .int cf2, .int cg1, .int cb1, .int cn1, .int cn2, .int cr1, .int cr2]))] sz) := by
  refine fg_enter (fun A => q_Code_isFieldShaped D h0 hs hi hm n cf1 o ct1 ct2 co1 cf2 cg1 cb1 cn1 cn2 cr1 cr2 A) (by decide +kernel) (Nat.le_of_ble_eq_true rfl) ?_
  intro p e s m below meth c ls A hx hb hml hown hts hr hlocks hin hP hK hD hS hA hX hl
  have hl : lv_has ls 1 [(0, .ref h0)] := hl
  refine lv_aload_n hx hb d_Code_isFieldShaped_0 rfl (lv_at hl 0 rfl) ?_
  refine va_get (D := D) (ci := 2) (v := .int cn1) (C := "FilterGuard$Code") (T := F_Code) (N := 16) hx hb hts i_Code hown hK hP 0 rfl rfl 12 (by decide) (hts _ u_261) (fun _ h9 => h9) rfl d_Code_isFieldShaped_1 ?_
  refine lv_bipush (v := 14) hx hb d_Code_isFieldShaped_4 (by decide) ?_
  refine lv_icmp_eq (tgt := 18) hx hb d_Code_isFieldShaped_6 (by decide) (fun c_1 => ?_) (fun c_1 => ?_)
  · refine lv_aload_n hx hb d_Code_isFieldShaped_18 rfl (lv_at hl 0 rfl) ?_
    refine va_get (D := D) (ci := 2) (v := .int cf2) (C := "FilterGuard$Code") (T := F_Code) (N := 16) hx hb hts i_Code hown hK hP 0 rfl rfl 9 (by decide) (hts _ u_247) (fun _ h9 => h9) rfl d_Code_isFieldShaped_19 ?_
    refine lv_bipush (v := 16) hx hb d_Code_isFieldShaped_22 (by decide) ?_
    refine lv_icmp_eq (tgt := 45) hx hb d_Code_isFieldShaped_24 (by decide) (fun c_2 => ?_) (fun c_2 => ?_)
    · refine lv_iconst (v := 1) hx hb d_Code_isFieldShaped_45 (by decide) ?_
      refine lv_goto (tgt := 50) hx hb d_Code_isFieldShaped_46 (by decide) ?_
      exact fg_retz () hx hb hr hlocks rfl ⟨(by unfold fx_Code_isFieldShaped_r; (repeat rw [if_pos c_1]); (repeat rw [if_pos c_2]); first | done | rfl | contradiction), (Or.inl rfl)⟩ (hP.sub (ws' := [(h0, .inr (2, [.ref hs, .ref hi, .ref hm, .int (nI n), .int cf1, .int o, .int ct1, .int ct2, .int co1, .int cf2, .int cg1, .int cb1, .int cn1, .int cn2, .int cr1, .int cr2]))]) [0] rfl) (hK.sub (tys' := []) [] rfl) (hD.sub (ws' := [(h0, .inr (2, [.ref hs, .ref hi, .ref hm, .int (nI n), .int cf1, .int o, .int ct1, .int ct2, .int co1, .int cf2, .int cg1, .int cb1, .int cn1, .int cn2, .int cr1, .int cr2]))]) [0] (by decide) rfl) hS (Nat.le_of_ble_eq_true rfl) (Nat.le_of_ble_eq_true rfl) d_Code_isFieldShaped_50
    · refine lv_aload_n hx hb d_Code_isFieldShaped_27 rfl (lv_at hl 0 rfl) ?_
      refine va_get (D := D) (ci := 2) (v := .int cf2) (C := "FilterGuard$Code") (T := F_Code) (N := 16) hx hb hts i_Code hown hK hP 0 rfl rfl 9 (by decide) (hts _ u_247) (fun _ h9 => h9) rfl d_Code_isFieldShaped_28 ?_
      refine lv_bipush (v := 32) hx hb d_Code_isFieldShaped_31 (by decide) ?_
      refine lv_icmp_eq (tgt := 45) hx hb d_Code_isFieldShaped_33 (by decide) (fun c_3 => ?_) (fun c_3 => ?_)
      · refine lv_iconst (v := 1) hx hb d_Code_isFieldShaped_45 (by decide) ?_
        refine lv_goto (tgt := 50) hx hb d_Code_isFieldShaped_46 (by decide) ?_
        exact fg_retz () hx hb hr hlocks rfl ⟨(by unfold fx_Code_isFieldShaped_r; (repeat rw [if_pos c_1]); (repeat rw [if_neg c_2]); (repeat rw [if_pos c_3]); first | done | rfl | contradiction), (Or.inl rfl)⟩ (hP.sub (ws' := [(h0, .inr (2, [.ref hs, .ref hi, .ref hm, .int (nI n), .int cf1, .int o, .int ct1, .int ct2, .int co1, .int cf2, .int cg1, .int cb1, .int cn1, .int cn2, .int cr1, .int cr2]))]) [0] rfl) (hK.sub (tys' := []) [] rfl) (hD.sub (ws' := [(h0, .inr (2, [.ref hs, .ref hi, .ref hm, .int (nI n), .int cf1, .int o, .int ct1, .int ct2, .int co1, .int cf2, .int cg1, .int cb1, .int cn1, .int cn2, .int cr1, .int cr2]))]) [0] (by decide) rfl) hS (Nat.le_of_ble_eq_true rfl) (Nat.le_of_ble_eq_true rfl) d_Code_isFieldShaped_50
      · refine lv_aload_n hx hb d_Code_isFieldShaped_36 rfl (lv_at hl 0 rfl) ?_
        refine va_get (D := D) (ci := 2) (v := .int cf2) (C := "FilterGuard$Code") (T := F_Code) (N := 16) hx hb hts i_Code hown hK hP 0 rfl rfl 9 (by decide) (hts _ u_247) (fun _ h9 => h9) rfl d_Code_isFieldShaped_37 ?_
        refine lv_bipush (v := 64) hx hb d_Code_isFieldShaped_40 (by decide) ?_
        refine lv_icmp_ne (tgt := 49) hx hb d_Code_isFieldShaped_42 (by decide) (fun c_4 => ?_) (fun c_4 => ?_)
        · refine lv_iconst (v := 0) hx hb d_Code_isFieldShaped_49 (by decide) ?_
          exact fg_retz () hx hb hr hlocks rfl ⟨(by unfold fx_Code_isFieldShaped_r; (repeat rw [if_pos c_1]); (repeat rw [if_neg c_2]); (repeat rw [if_neg c_3]); (repeat rw [if_neg c_4]); first | done | rfl | contradiction), (Or.inr rfl)⟩ (hP.sub (ws' := [(h0, .inr (2, [.ref hs, .ref hi, .ref hm, .int (nI n), .int cf1, .int o, .int ct1, .int ct2, .int co1, .int cf2, .int cg1, .int cb1, .int cn1, .int cn2, .int cr1, .int cr2]))]) [0] rfl) (hK.sub (tys' := []) [] rfl) (hD.sub (ws' := [(h0, .inr (2, [.ref hs, .ref hi, .ref hm, .int (nI n), .int cf1, .int o, .int ct1, .int ct2, .int co1, .int cf2, .int cg1, .int cb1, .int cn1, .int cn2, .int cr1, .int cr2]))]) [0] (by decide) rfl) hS (Nat.le_of_ble_eq_true rfl) (Nat.le_of_ble_eq_true rfl) d_Code_isFieldShaped_50
        · refine lv_iconst (v := 1) hx hb d_Code_isFieldShaped_45 (by decide) ?_
          refine lv_goto (tgt := 50) hx hb d_Code_isFieldShaped_46 (by decide) ?_
          exact fg_retz () hx hb hr hlocks rfl ⟨(by unfold fx_Code_isFieldShaped_r; (repeat rw [if_pos c_1]); (repeat rw [if_neg c_2]); (repeat rw [if_neg c_3]); (repeat rw [if_pos c_4]); first | done | rfl | contradiction), (Or.inl rfl)⟩ (hP.sub (ws' := [(h0, .inr (2, [.ref hs, .ref hi, .ref hm, .int (nI n), .int cf1, .int o, .int ct1, .int ct2, .int co1, .int cf2, .int cg1, .int cb1, .int cn1, .int cn2, .int cr1, .int cr2]))]) [0] rfl) (hK.sub (tys' := []) [] rfl) (hD.sub (ws' := [(h0, .inr (2, [.ref hs, .ref hi, .ref hm, .int (nI n), .int cf1, .int o, .int ct1, .int ct2, .int co1, .int cf2, .int cg1, .int cb1, .int cn1, .int cn2, .int cr1, .int cr2]))]) [0] (by decide) rfl) hS (Nat.le_of_ble_eq_true rfl) (Nat.le_of_ble_eq_true rfl) d_Code_isFieldShaped_50
  · refine lv_aload_n hx hb d_Code_isFieldShaped_9 rfl (lv_at hl 0 rfl) ?_
    refine va_get (D := D) (ci := 2) (v := .int cn1) (C := "FilterGuard$Code") (T := F_Code) (N := 16) hx hb hts i_Code hown hK hP 0 rfl rfl 12 (by decide) (hts _ u_261) (fun _ h9 => h9) rfl d_Code_isFieldShaped_10 ?_
    refine lv_bipush (v := 13) hx hb d_Code_isFieldShaped_13 (by decide) ?_
    refine lv_icmp_ne (tgt := 51) hx hb d_Code_isFieldShaped_15 (by decide) (fun c_5 => ?_) (fun c_5 => ?_)
    · refine lv_aload_n hx hb d_Code_isFieldShaped_51 rfl (lv_at hl 0 rfl) ?_
      refine va_get (D := D) (ci := 2) (v := .int cn1) (C := "FilterGuard$Code") (T := F_Code) (N := 16) hx hb hts i_Code hown hK hP 0 rfl rfl 12 (by decide) (hts _ u_261) (fun _ h9 => h9) rfl d_Code_isFieldShaped_52 ?_
      refine lv_bipush (v := 11) hx hb d_Code_isFieldShaped_55 (by decide) ?_
      refine lv_icmp_ne (tgt := 67) hx hb d_Code_isFieldShaped_57 (by decide) (fun c_6 => ?_) (fun c_6 => ?_)
      · refine lv_iconst (v := 1) hx hb d_Code_isFieldShaped_67 (by decide) ?_
        refine lv_goto (tgt := 72) hx hb d_Code_isFieldShaped_68 (by decide) ?_
        exact fg_retz () hx hb hr hlocks rfl ⟨(by unfold fx_Code_isFieldShaped_r; (repeat rw [if_neg c_1]); (repeat rw [if_neg c_5]); (repeat rw [if_neg c_6]); first | done | rfl | contradiction), (Or.inl rfl)⟩ (hP.sub (ws' := [(h0, .inr (2, [.ref hs, .ref hi, .ref hm, .int (nI n), .int cf1, .int o, .int ct1, .int ct2, .int co1, .int cf2, .int cg1, .int cb1, .int cn1, .int cn2, .int cr1, .int cr2]))]) [0] rfl) (hK.sub (tys' := []) [] rfl) (hD.sub (ws' := [(h0, .inr (2, [.ref hs, .ref hi, .ref hm, .int (nI n), .int cf1, .int o, .int ct1, .int ct2, .int co1, .int cf2, .int cg1, .int cb1, .int cn1, .int cn2, .int cr1, .int cr2]))]) [0] (by decide) rfl) hS (Nat.le_of_ble_eq_true rfl) (Nat.le_of_ble_eq_true rfl) d_Code_isFieldShaped_72
      · refine lv_aload_n hx hb d_Code_isFieldShaped_60 rfl (lv_at hl 0 rfl) ?_
        refine va_get (D := D) (ci := 2) (v := .int cf2) (C := "FilterGuard$Code") (T := F_Code) (N := 16) hx hb hts i_Code hown hK hP 0 rfl rfl 9 (by decide) (hts _ u_247) (fun _ h9 => h9) rfl d_Code_isFieldShaped_61 ?_
        refine lv_if_ne (tgt := 71) hx hb d_Code_isFieldShaped_64 (by decide) (fun c_7 => ?_) (fun c_7 => ?_)
        · refine lv_iconst (v := 0) hx hb d_Code_isFieldShaped_71 (by decide) ?_
          exact fg_retz () hx hb hr hlocks rfl ⟨(by unfold fx_Code_isFieldShaped_r; (repeat rw [if_neg c_1]); (repeat rw [if_neg c_5]); (repeat rw [if_pos c_6]); (repeat rw [if_neg c_7]); first | done | rfl | contradiction), (Or.inr rfl)⟩ (hP.sub (ws' := [(h0, .inr (2, [.ref hs, .ref hi, .ref hm, .int (nI n), .int cf1, .int o, .int ct1, .int ct2, .int co1, .int cf2, .int cg1, .int cb1, .int cn1, .int cn2, .int cr1, .int cr2]))]) [0] rfl) (hK.sub (tys' := []) [] rfl) (hD.sub (ws' := [(h0, .inr (2, [.ref hs, .ref hi, .ref hm, .int (nI n), .int cf1, .int o, .int ct1, .int ct2, .int co1, .int cf2, .int cg1, .int cb1, .int cn1, .int cn2, .int cr1, .int cr2]))]) [0] (by decide) rfl) hS (Nat.le_of_ble_eq_true rfl) (Nat.le_of_ble_eq_true rfl) d_Code_isFieldShaped_72
        · refine lv_iconst (v := 1) hx hb d_Code_isFieldShaped_67 (by decide) ?_
          refine lv_goto (tgt := 72) hx hb d_Code_isFieldShaped_68 (by decide) ?_
          exact fg_retz () hx hb hr hlocks rfl ⟨(by unfold fx_Code_isFieldShaped_r; (repeat rw [if_neg c_1]); (repeat rw [if_neg c_5]); (repeat rw [if_pos c_6]); (repeat rw [if_pos c_7]); first | done | rfl | contradiction), (Or.inl rfl)⟩ (hP.sub (ws' := [(h0, .inr (2, [.ref hs, .ref hi, .ref hm, .int (nI n), .int cf1, .int o, .int ct1, .int ct2, .int co1, .int cf2, .int cg1, .int cb1, .int cn1, .int cn2, .int cr1, .int cr2]))]) [0] rfl) (hK.sub (tys' := []) [] rfl) (hD.sub (ws' := [(h0, .inr (2, [.ref hs, .ref hi, .ref hm, .int (nI n), .int cf1, .int o, .int ct1, .int ct2, .int co1, .int cf2, .int cg1, .int cb1, .int cn1, .int cn2, .int cr1, .int cr2]))]) [0] (by decide) rfl) hS (Nat.le_of_ble_eq_true rfl) (Nat.le_of_ble_eq_true rfl) d_Code_isFieldShaped_72
    · refine lv_aload_n hx hb d_Code_isFieldShaped_18 rfl (lv_at hl 0 rfl) ?_
      refine va_get (D := D) (ci := 2) (v := .int cf2) (C := "FilterGuard$Code") (T := F_Code) (N := 16) hx hb hts i_Code hown hK hP 0 rfl rfl 9 (by decide) (hts _ u_247) (fun _ h9 => h9) rfl d_Code_isFieldShaped_19 ?_
      refine lv_bipush (v := 16) hx hb d_Code_isFieldShaped_22 (by decide) ?_
      refine lv_icmp_eq (tgt := 45) hx hb d_Code_isFieldShaped_24 (by decide) (fun c_8 => ?_) (fun c_8 => ?_)
      · refine lv_iconst (v := 1) hx hb d_Code_isFieldShaped_45 (by decide) ?_
        refine lv_goto (tgt := 50) hx hb d_Code_isFieldShaped_46 (by decide) ?_
        exact fg_retz () hx hb hr hlocks rfl ⟨(by unfold fx_Code_isFieldShaped_r; (repeat rw [if_neg c_1]); (repeat rw [if_pos c_5]); (repeat rw [if_pos c_8]); first | done | rfl | contradiction), (Or.inl rfl)⟩ (hP.sub (ws' := [(h0, .inr (2, [.ref hs, .ref hi, .ref hm, .int (nI n), .int cf1, .int o, .int ct1, .int ct2, .int co1, .int cf2, .int cg1, .int cb1, .int cn1, .int cn2, .int cr1, .int cr2]))]) [0] rfl) (hK.sub (tys' := []) [] rfl) (hD.sub (ws' := [(h0, .inr (2, [.ref hs, .ref hi, .ref hm, .int (nI n), .int cf1, .int o, .int ct1, .int ct2, .int co1, .int cf2, .int cg1, .int cb1, .int cn1, .int cn2, .int cr1, .int cr2]))]) [0] (by decide) rfl) hS (Nat.le_of_ble_eq_true rfl) (Nat.le_of_ble_eq_true rfl) d_Code_isFieldShaped_50
      · refine lv_aload_n hx hb d_Code_isFieldShaped_27 rfl (lv_at hl 0 rfl) ?_
        refine va_get (D := D) (ci := 2) (v := .int cf2) (C := "FilterGuard$Code") (T := F_Code) (N := 16) hx hb hts i_Code hown hK hP 0 rfl rfl 9 (by decide) (hts _ u_247) (fun _ h9 => h9) rfl d_Code_isFieldShaped_28 ?_
        refine lv_bipush (v := 32) hx hb d_Code_isFieldShaped_31 (by decide) ?_
        refine lv_icmp_eq (tgt := 45) hx hb d_Code_isFieldShaped_33 (by decide) (fun c_9 => ?_) (fun c_9 => ?_)
        · refine lv_iconst (v := 1) hx hb d_Code_isFieldShaped_45 (by decide) ?_
          refine lv_goto (tgt := 50) hx hb d_Code_isFieldShaped_46 (by decide) ?_
          exact fg_retz () hx hb hr hlocks rfl ⟨(by unfold fx_Code_isFieldShaped_r; (repeat rw [if_neg c_1]); (repeat rw [if_pos c_5]); (repeat rw [if_neg c_8]); (repeat rw [if_pos c_9]); first | done | rfl | contradiction), (Or.inl rfl)⟩ (hP.sub (ws' := [(h0, .inr (2, [.ref hs, .ref hi, .ref hm, .int (nI n), .int cf1, .int o, .int ct1, .int ct2, .int co1, .int cf2, .int cg1, .int cb1, .int cn1, .int cn2, .int cr1, .int cr2]))]) [0] rfl) (hK.sub (tys' := []) [] rfl) (hD.sub (ws' := [(h0, .inr (2, [.ref hs, .ref hi, .ref hm, .int (nI n), .int cf1, .int o, .int ct1, .int ct2, .int co1, .int cf2, .int cg1, .int cb1, .int cn1, .int cn2, .int cr1, .int cr2]))]) [0] (by decide) rfl) hS (Nat.le_of_ble_eq_true rfl) (Nat.le_of_ble_eq_true rfl) d_Code_isFieldShaped_50
        · refine lv_aload_n hx hb d_Code_isFieldShaped_36 rfl (lv_at hl 0 rfl) ?_
          refine va_get (D := D) (ci := 2) (v := .int cf2) (C := "FilterGuard$Code") (T := F_Code) (N := 16) hx hb hts i_Code hown hK hP 0 rfl rfl 9 (by decide) (hts _ u_247) (fun _ h9 => h9) rfl d_Code_isFieldShaped_37 ?_
          refine lv_bipush (v := 64) hx hb d_Code_isFieldShaped_40 (by decide) ?_
          refine lv_icmp_ne (tgt := 49) hx hb d_Code_isFieldShaped_42 (by decide) (fun c_10 => ?_) (fun c_10 => ?_)
          · refine lv_iconst (v := 0) hx hb d_Code_isFieldShaped_49 (by decide) ?_
            exact fg_retz () hx hb hr hlocks rfl ⟨(by unfold fx_Code_isFieldShaped_r; (repeat rw [if_neg c_1]); (repeat rw [if_pos c_5]); (repeat rw [if_neg c_8]); (repeat rw [if_neg c_9]); (repeat rw [if_neg c_10]); first | done | rfl | contradiction), (Or.inr rfl)⟩ (hP.sub (ws' := [(h0, .inr (2, [.ref hs, .ref hi, .ref hm, .int (nI n), .int cf1, .int o, .int ct1, .int ct2, .int co1, .int cf2, .int cg1, .int cb1, .int cn1, .int cn2, .int cr1, .int cr2]))]) [0] rfl) (hK.sub (tys' := []) [] rfl) (hD.sub (ws' := [(h0, .inr (2, [.ref hs, .ref hi, .ref hm, .int (nI n), .int cf1, .int o, .int ct1, .int ct2, .int co1, .int cf2, .int cg1, .int cb1, .int cn1, .int cn2, .int cr1, .int cr2]))]) [0] (by decide) rfl) hS (Nat.le_of_ble_eq_true rfl) (Nat.le_of_ble_eq_true rfl) d_Code_isFieldShaped_50
          · refine lv_iconst (v := 1) hx hb d_Code_isFieldShaped_45 (by decide) ?_
            refine lv_goto (tgt := 50) hx hb d_Code_isFieldShaped_46 (by decide) ?_
            exact fg_retz () hx hb hr hlocks rfl ⟨(by unfold fx_Code_isFieldShaped_r; (repeat rw [if_neg c_1]); (repeat rw [if_pos c_5]); (repeat rw [if_neg c_8]); (repeat rw [if_neg c_9]); (repeat rw [if_pos c_10]); first | done | rfl | contradiction), (Or.inl rfl)⟩ (hP.sub (ws' := [(h0, .inr (2, [.ref hs, .ref hi, .ref hm, .int (nI n), .int cf1, .int o, .int ct1, .int ct2, .int co1, .int cf2, .int cg1, .int cb1, .int cn1, .int cn2, .int cr1, .int cr2]))]) [0] rfl) (hK.sub (tys' := []) [] rfl) (hD.sub (ws' := [(h0, .inr (2, [.ref hs, .ref hi, .ref hm, .int (nI n), .int cf1, .int o, .int ct1, .int ct2, .int co1, .int cf2, .int cg1, .int cb1, .int cn1, .int cn2, .int cr1, .int cr2]))]) [0] (by decide) rfl) hS (Nat.le_of_ble_eq_true rfl) (Nat.le_of_ble_eq_true rfl) d_Code_isFieldShaped_50
def fx_Code_isWrongField_j68 (cn2 : Int32) : Int32 := (if cn2 = 0 then 63 else 31)
def fx_Code_isWrongField_r (cf2 : Int32) (cn1 : Int32) (cn2 : Int32) : Int32 := (if cn1 = 3 then (if cf2 = 0 then 1 else 0) else (if cn1 = 4 then (if cf2 = 0 then 1 else 0) else (if cn1 < 8 then 0 else (if 10 < cn1 then 0 else (if cf2 < 0 then 1 else (if cf2 ≤ (fx_Code_isWrongField_j68 cn2) then 0 else 1))))))
def rm_Code_isWrongField : Room := { frames := 1, cells := 0, slots := 0, locals := 20 }
abbrev q_Code_isWrongField (D : va_G) (h0 : Nat) (hs : Nat) (hi : Nat) (hm : Nat) (n : Nat) (cf1 : Int32) (o : Int32) (ct1 : Int32) (ct2 : Int32) (co1 : Int32) (cf2 : Int32) (cg1 : Int32) (cb1 : Int32) (cn1 : Int32) (cn2 : Int32) (cr1 : Int32) (cr2 : Int32) (A : Nat → Prop) : Array Value → Jvm.State → Outcome → Jvm.State → Prop := va_Qi (fun (r : Int32) (_ : Unit) => r = (fx_Code_isWrongField_r cf2 cn1 cn2) ∧ (r = 1 ∨ r = 0)) (fg_B D A (fun (_ : Unit) => [(h0, .inr (2, [.ref hs, .ref hi, .ref hm, .int (nI n), .int cf1, .int o, .int ct1, .int ct2, .int co1, .int cf2, .int cg1, .int cb1, .int cn1, .int cn2, .int cr1, .int cr2]))]) (fun (_ : Unit) => [])) A
set_option maxHeartbeats 4000000 in
set_option maxRecDepth 100000 in
theorem c_Code_isWrongField (l : Launch) (D : va_G) (h0 : Nat) (hs : Nat) (hi : Nat) (hm : Nat) (n : Nat) (cf1 : Int32) (o : Int32) (ct1 : Int32) (ct2 : Int32) (co1 : Int32) (cf2 : Int32) (cg1 : Int32) (cb1 : Int32) (cn1 : Int32) (cn2 : Int32) (cr1 : Int32) (cr2 : Int32) (sz : Nat) : Met l y_Code_isWrongField (fg_w y_Code_isWrongField prog_4_method_17_code 2 (some .boolean)) rm_Code_isWrongField (va_Pc [.ref h0] (fg_P D [] [(h0, .inr (2, [.ref hs, .ref hi, .ref hm, .int (nI n), .int cf1, .int o, .int ct1, .int ct2, .int co1, .int cf2, .int cg1, .int cb1, .int cn1, .int cn2, .int cr1, .int cr2]))] sz)) (q_Code_isWrongField D h0 hs hi hm n cf1 o ct1 ct2 co1 cf2 cg1 cb1 cn1 cn2 cr1 cr2 (va_A [(h0, .inr (2, [.ref hs, .ref hi, .ref hm, .int (nI n), .int cf1, .int o, .int ct1, .int ct2, .int co1, .int cf2, .int cg1, .int cb1, .int cn1, .int cn2, .int cr1, .int cr2]))] sz)) rm_Code_isWrongField.cells rm_Code_isWrongField.slots (va_A [(h0, .inr (2, [.ref hs, .ref hi, .ref hm, .int (nI n), .int cf1, .int o, .int ct1, .int ct2, .int co1, .int cf2, .int cg1, .int cb1, .int cn1, .int cn2, .int cr1, .int cr2]))] sz) := by
  refine fg_enter (fun A => q_Code_isWrongField D h0 hs hi hm n cf1 o ct1 ct2 co1 cf2 cg1 cb1 cn1 cn2 cr1 cr2 A) (by decide +kernel) (Nat.le_of_ble_eq_true rfl) ?_
  intro p e s m below meth c ls A hx hb hml hown hts hr hlocks hin hP hK hD hS hA hX hl
  have hl : lv_has ls 2 [(0, .ref h0)] := hl
  refine lv_aload_n hx hb d_Code_isWrongField_0 rfl (lv_at hl 0 rfl) ?_
  refine va_get (D := D) (ci := 2) (v := .int cn1) (C := "FilterGuard$Code") (T := F_Code) (N := 16) hx hb hts i_Code hown hK hP 0 rfl rfl 12 (by decide) (hts _ u_261) (fun _ h9 => h9) rfl d_Code_isWrongField_1 ?_
  refine lv_iconst (v := 3) hx hb d_Code_isWrongField_4 (by decide) ?_
  refine lv_icmp_eq (tgt := 16) hx hb d_Code_isWrongField_5 (by decide) (fun c_1 => ?_) (fun c_1 => ?_)
  · refine lv_aload_n hx hb d_Code_isWrongField_16 rfl (lv_at hl 0 rfl) ?_
    refine va_get (D := D) (ci := 2) (v := .int cf2) (C := "FilterGuard$Code") (T := F_Code) (N := 16) hx hb hts i_Code hown hK hP 0 rfl rfl 9 (by decide) (hts _ u_247) (fun _ h9 => h9) rfl d_Code_isWrongField_17 ?_
    refine lv_if_ne (tgt := 27) hx hb d_Code_isWrongField_20 (by decide) (fun c_2 => ?_) (fun c_2 => ?_)
    · refine lv_iconst (v := 0) hx hb d_Code_isWrongField_27 (by decide) ?_
      exact fg_retz () hx hb hr hlocks rfl ⟨(by unfold fx_Code_isWrongField_r; (repeat rw [if_pos c_1]); (repeat rw [if_neg c_2]); first | done | rfl | contradiction), (Or.inr rfl)⟩ (hP.sub (ws' := [(h0, .inr (2, [.ref hs, .ref hi, .ref hm, .int (nI n), .int cf1, .int o, .int ct1, .int ct2, .int co1, .int cf2, .int cg1, .int cb1, .int cn1, .int cn2, .int cr1, .int cr2]))]) [0] rfl) (hK.sub (tys' := []) [] rfl) (hD.sub (ws' := [(h0, .inr (2, [.ref hs, .ref hi, .ref hm, .int (nI n), .int cf1, .int o, .int ct1, .int ct2, .int co1, .int cf2, .int cg1, .int cb1, .int cn1, .int cn2, .int cr1, .int cr2]))]) [0] (by decide) rfl) hS (Nat.le_of_ble_eq_true rfl) (Nat.le_of_ble_eq_true rfl) d_Code_isWrongField_28
    · refine lv_iconst (v := 1) hx hb d_Code_isWrongField_23 (by decide) ?_
      refine lv_goto (tgt := 28) hx hb d_Code_isWrongField_24 (by decide) ?_
      exact fg_retz () hx hb hr hlocks rfl ⟨(by unfold fx_Code_isWrongField_r; (repeat rw [if_pos c_1]); (repeat rw [if_pos c_2]); first | done | rfl | contradiction), (Or.inl rfl)⟩ (hP.sub (ws' := [(h0, .inr (2, [.ref hs, .ref hi, .ref hm, .int (nI n), .int cf1, .int o, .int ct1, .int ct2, .int co1, .int cf2, .int cg1, .int cb1, .int cn1, .int cn2, .int cr1, .int cr2]))]) [0] rfl) (hK.sub (tys' := []) [] rfl) (hD.sub (ws' := [(h0, .inr (2, [.ref hs, .ref hi, .ref hm, .int (nI n), .int cf1, .int o, .int ct1, .int ct2, .int co1, .int cf2, .int cg1, .int cb1, .int cn1, .int cn2, .int cr1, .int cr2]))]) [0] (by decide) rfl) hS (Nat.le_of_ble_eq_true rfl) (Nat.le_of_ble_eq_true rfl) d_Code_isWrongField_28
  · refine lv_aload_n hx hb d_Code_isWrongField_8 rfl (lv_at hl 0 rfl) ?_
    refine va_get (D := D) (ci := 2) (v := .int cn1) (C := "FilterGuard$Code") (T := F_Code) (N := 16) hx hb hts i_Code hown hK hP 0 rfl rfl 12 (by decide) (hts _ u_261) (fun _ h9 => h9) rfl d_Code_isWrongField_9 ?_
    refine lv_iconst (v := 4) hx hb d_Code_isWrongField_12 (by decide) ?_
    refine lv_icmp_ne (tgt := 29) hx hb d_Code_isWrongField_13 (by decide) (fun c_3 => ?_) (fun c_3 => ?_)
    · refine lv_aload_n hx hb d_Code_isWrongField_29 rfl (lv_at hl 0 rfl) ?_
      refine va_get (D := D) (ci := 2) (v := .int cn1) (C := "FilterGuard$Code") (T := F_Code) (N := 16) hx hb hts i_Code hown hK hP 0 rfl rfl 12 (by decide) (hts _ u_261) (fun _ h9 => h9) rfl d_Code_isWrongField_30 ?_
      refine lv_bipush (v := 8) hx hb d_Code_isWrongField_33 (by decide) ?_
      refine lv_icmp_lt (tgt := 51) hx hb d_Code_isWrongField_35 (by decide) (fun c_4 => ?_) (fun c_4 => ?_)
      · refine lv_iconst (v := 0) hx hb d_Code_isWrongField_51 (by decide) ?_
        refine lv_istore_n (lv' := [(1, .int 0), (0, .ref h0)]) hx hb d_Code_isWrongField_52 rfl hl (by decide) rfl (fun ls hl => ?_)
        refine lv_iload_n hx hb d_Code_isWrongField_53 rfl (lv_at hl 0 rfl) ?_
        refine lv_if_eq (tgt := 89) hx hb d_Code_isWrongField_54 (by decide) (fun c_5 => ?_) (fun c_5 => absurd (by decide) c_5)
        refine lv_iconst (v := 0) hx hb d_Code_isWrongField_89 (by decide) ?_
        exact fg_retz () hx hb hr hlocks rfl ⟨(by unfold fx_Code_isWrongField_r; (repeat rw [if_neg c_1]); (repeat rw [if_neg c_3]); (repeat rw [if_pos c_4]); first | done | rfl | contradiction), (Or.inr rfl)⟩ (hP.sub (ws' := [(h0, .inr (2, [.ref hs, .ref hi, .ref hm, .int (nI n), .int cf1, .int o, .int ct1, .int ct2, .int co1, .int cf2, .int cg1, .int cb1, .int cn1, .int cn2, .int cr1, .int cr2]))]) [0] rfl) (hK.sub (tys' := []) [] rfl) (hD.sub (ws' := [(h0, .inr (2, [.ref hs, .ref hi, .ref hm, .int (nI n), .int cf1, .int o, .int ct1, .int ct2, .int co1, .int cf2, .int cg1, .int cb1, .int cn1, .int cn2, .int cr1, .int cr2]))]) [0] (by decide) rfl) hS (Nat.le_of_ble_eq_true rfl) (Nat.le_of_ble_eq_true rfl) d_Code_isWrongField_90
      · refine lv_aload_n hx hb d_Code_isWrongField_38 rfl (lv_at hl 0 rfl) ?_
        refine va_get (D := D) (ci := 2) (v := .int cn1) (C := "FilterGuard$Code") (T := F_Code) (N := 16) hx hb hts i_Code hown hK hP 0 rfl rfl 12 (by decide) (hts _ u_261) (fun _ h9 => h9) rfl d_Code_isWrongField_39 ?_
        refine lv_bipush (v := 10) hx hb d_Code_isWrongField_42 (by decide) ?_
        refine lv_icmp_gt (tgt := 51) hx hb d_Code_isWrongField_44 (by decide) (fun c_6 => ?_) (fun c_6 => ?_)
        · refine lv_iconst (v := 0) hx hb d_Code_isWrongField_51 (by decide) ?_
          refine lv_istore_n (lv' := [(1, .int 0), (0, .ref h0)]) hx hb d_Code_isWrongField_52 rfl hl (by decide) rfl (fun ls hl => ?_)
          refine lv_iload_n hx hb d_Code_isWrongField_53 rfl (lv_at hl 0 rfl) ?_
          refine lv_if_eq (tgt := 89) hx hb d_Code_isWrongField_54 (by decide) (fun c_7 => ?_) (fun c_7 => absurd (by decide) c_7)
          refine lv_iconst (v := 0) hx hb d_Code_isWrongField_89 (by decide) ?_
          exact fg_retz () hx hb hr hlocks rfl ⟨(by unfold fx_Code_isWrongField_r; (repeat rw [if_neg c_1]); (repeat rw [if_neg c_3]); (repeat rw [if_neg c_4]); (repeat rw [if_pos c_6]); first | done | rfl | contradiction), (Or.inr rfl)⟩ (hP.sub (ws' := [(h0, .inr (2, [.ref hs, .ref hi, .ref hm, .int (nI n), .int cf1, .int o, .int ct1, .int ct2, .int co1, .int cf2, .int cg1, .int cb1, .int cn1, .int cn2, .int cr1, .int cr2]))]) [0] rfl) (hK.sub (tys' := []) [] rfl) (hD.sub (ws' := [(h0, .inr (2, [.ref hs, .ref hi, .ref hm, .int (nI n), .int cf1, .int o, .int ct1, .int ct2, .int co1, .int cf2, .int cg1, .int cb1, .int cn1, .int cn2, .int cr1, .int cr2]))]) [0] (by decide) rfl) hS (Nat.le_of_ble_eq_true rfl) (Nat.le_of_ble_eq_true rfl) d_Code_isWrongField_90
        · refine lv_iconst (v := 1) hx hb d_Code_isWrongField_47 (by decide) ?_
          refine lv_goto (tgt := 52) hx hb d_Code_isWrongField_48 (by decide) ?_
          refine lv_istore_n (lv' := [(1, .int 1), (0, .ref h0)]) hx hb d_Code_isWrongField_52 rfl hl (by decide) rfl (fun ls hl => ?_)
          refine lv_iload_n hx hb d_Code_isWrongField_53 rfl (lv_at hl 0 rfl) ?_
          refine lv_if_eq (tgt := 89) hx hb d_Code_isWrongField_54 (by decide) (fun c_8 => absurd c_8 (by decide)) (fun c_8 => ?_)
          refine lv_aload_n hx hb d_Code_isWrongField_57 rfl (lv_at hl 1 rfl) ?_
          refine va_get (D := D) (ci := 2) (v := .int cf2) (C := "FilterGuard$Code") (T := F_Code) (N := 16) hx hb hts i_Code hown hK hP 0 rfl rfl 9 (by decide) (hts _ u_247) (fun _ h9 => h9) rfl d_Code_isWrongField_58 ?_
          refine lv_if_lt (tgt := 85) hx hb d_Code_isWrongField_61 (by decide) (fun c_9 => ?_) (fun c_9 => ?_)
          · refine lv_iconst (v := 1) hx hb d_Code_isWrongField_85 (by decide) ?_
            refine lv_goto (tgt := 90) hx hb d_Code_isWrongField_86 (by decide) ?_
            exact fg_retz () hx hb hr hlocks rfl ⟨(by unfold fx_Code_isWrongField_r; (repeat rw [if_neg c_1]); (repeat rw [if_neg c_3]); (repeat rw [if_neg c_4]); (repeat rw [if_neg c_6]); (repeat rw [if_pos c_9]); first | done | rfl | contradiction), (Or.inl rfl)⟩ (hP.sub (ws' := [(h0, .inr (2, [.ref hs, .ref hi, .ref hm, .int (nI n), .int cf1, .int o, .int ct1, .int ct2, .int co1, .int cf2, .int cg1, .int cb1, .int cn1, .int cn2, .int cr1, .int cr2]))]) [0] rfl) (hK.sub (tys' := []) [] rfl) (hD.sub (ws' := [(h0, .inr (2, [.ref hs, .ref hi, .ref hm, .int (nI n), .int cf1, .int o, .int ct1, .int ct2, .int co1, .int cf2, .int cg1, .int cb1, .int cn1, .int cn2, .int cr1, .int cr2]))]) [0] (by decide) rfl) hS (Nat.le_of_ble_eq_true rfl) (Nat.le_of_ble_eq_true rfl) d_Code_isWrongField_90
          · refine lv_aload_n hx hb d_Code_isWrongField_64 rfl (lv_at hl 1 rfl) ?_
            refine va_get (D := D) (ci := 2) (v := .int cf2) (C := "FilterGuard$Code") (T := F_Code) (N := 16) hx hb hts i_Code hown hK hP 0 rfl rfl 9 (by decide) (hts _ u_247) (fun _ h9 => h9) rfl d_Code_isWrongField_65 ?_
            have j68_9 : ∀ (v68_9 : Int32) (H : Heap) (locs : List Loc) (ls : Array Slot), v68_9 = (fx_Code_isWrongField_j68 cn2) → va_P D classes [(h0, .inr (2, [.ref hs, .ref hi, .ref hm, .int (nI n), .int cf1, .int o, .int ct1, .int ct2, .int co1, .int cf2, .int cg1, .int cb1, .int cn1, .int cn2, .int cr1, .int cr2]))] H → va_D A [(h0, .inr (2, [.ref hs, .ref hi, .ref hm, .int (nI n), .int cf1, .int o, .int ct1, .int ct2, .int co1, .int cf2, .int cg1, .int cb1, .int cn1, .int cn2, .int cr1, .int cr2]))] → va_S A s.heap H locs → lv_has ls 2 [(1, .int 1), (0, .ref h0)] → W p l e rm_Code_isWrongField s m [.ref h0].toArray below meth c H locs (0) (0) (MQ below (q_Code_isWrongField D h0 hs hi hm n cf1 o ct1 ct2 co1 cf2 cg1 cb1 cn1 cn2 cr1 cr2 A) [.ref h0].toArray s rm_Code_isWrongField.cells rm_Code_isWrongField.slots A) (F0 m 82 ls (.int v68_9 :: .int cf2 :: [])) := by
              intro v68_9 H locs ls hv68_9 hP hD hS hl
              subst hv68_9
              refine lv_icmp_le (tgt := 89) hx hb d_Code_isWrongField_82 (by decide) (fun c_11 => ?_) (fun c_11 => ?_)
              · refine lv_iconst (v := 0) hx hb d_Code_isWrongField_89 (by decide) ?_
                exact fg_retz () hx hb hr hlocks rfl ⟨(by unfold fx_Code_isWrongField_r; (repeat rw [if_neg c_1]); (repeat rw [if_neg c_3]); (repeat rw [if_neg c_4]); (repeat rw [if_neg c_6]); (repeat rw [if_neg c_9]); (repeat rw [if_pos c_11]); first | done | rfl | contradiction), (Or.inr rfl)⟩ (hP.sub (ws' := [(h0, .inr (2, [.ref hs, .ref hi, .ref hm, .int (nI n), .int cf1, .int o, .int ct1, .int ct2, .int co1, .int cf2, .int cg1, .int cb1, .int cn1, .int cn2, .int cr1, .int cr2]))]) [0] rfl) (hK.sub (tys' := []) [] rfl) (hD.sub (ws' := [(h0, .inr (2, [.ref hs, .ref hi, .ref hm, .int (nI n), .int cf1, .int o, .int ct1, .int ct2, .int co1, .int cf2, .int cg1, .int cb1, .int cn1, .int cn2, .int cr1, .int cr2]))]) [0] (by decide) rfl) hS (Nat.le_of_ble_eq_true rfl) (Nat.le_of_ble_eq_true rfl) d_Code_isWrongField_90
              · refine lv_iconst (v := 1) hx hb d_Code_isWrongField_85 (by decide) ?_
                refine lv_goto (tgt := 90) hx hb d_Code_isWrongField_86 (by decide) ?_
                exact fg_retz () hx hb hr hlocks rfl ⟨(by unfold fx_Code_isWrongField_r; (repeat rw [if_neg c_1]); (repeat rw [if_neg c_3]); (repeat rw [if_neg c_4]); (repeat rw [if_neg c_6]); (repeat rw [if_neg c_9]); (repeat rw [if_neg c_11]); first | done | rfl | contradiction), (Or.inl rfl)⟩ (hP.sub (ws' := [(h0, .inr (2, [.ref hs, .ref hi, .ref hm, .int (nI n), .int cf1, .int o, .int ct1, .int ct2, .int co1, .int cf2, .int cg1, .int cb1, .int cn1, .int cn2, .int cr1, .int cr2]))]) [0] rfl) (hK.sub (tys' := []) [] rfl) (hD.sub (ws' := [(h0, .inr (2, [.ref hs, .ref hi, .ref hm, .int (nI n), .int cf1, .int o, .int ct1, .int ct2, .int co1, .int cf2, .int cg1, .int cb1, .int cn1, .int cn2, .int cr1, .int cr2]))]) [0] (by decide) rfl) hS (Nat.le_of_ble_eq_true rfl) (Nat.le_of_ble_eq_true rfl) d_Code_isWrongField_90
            refine lv_aload_n hx hb d_Code_isWrongField_68 rfl (lv_at hl 1 rfl) ?_
            refine va_get (D := D) (ci := 2) (v := .int cn2) (C := "FilterGuard$Code") (T := F_Code) (N := 16) hx hb hts i_Code hown hK hP 0 rfl rfl 13 (by decide) (hts _ u_265) (fun _ h9 => h9) rfl d_Code_isWrongField_69 ?_
            refine lv_if_eq (tgt := 80) hx hb d_Code_isWrongField_72 (by decide) (fun c_12 => ?_) (fun c_12 => ?_)
            · refine lv_bipush (v := 63) hx hb d_Code_isWrongField_80 (by decide) ?_
              exact j68_9 63 _ _ _ (by unfold fx_Code_isWrongField_j68; (repeat rw [if_pos c_12]); first | done | rfl | contradiction) (hP.sub (ws' := [(h0, .inr (2, [.ref hs, .ref hi, .ref hm, .int (nI n), .int cf1, .int o, .int ct1, .int ct2, .int co1, .int cf2, .int cg1, .int cb1, .int cn1, .int cn2, .int cr1, .int cr2]))]) [0] rfl) (hD.sub (ws' := [(h0, .inr (2, [.ref hs, .ref hi, .ref hm, .int (nI n), .int cf1, .int o, .int ct1, .int ct2, .int co1, .int cf2, .int cg1, .int cb1, .int cn1, .int cn2, .int cr1, .int cr2]))]) [0] (by decide) rfl) hS (lv_sub hl [0, 1] rfl)
            · refine lv_bipush (v := 31) hx hb d_Code_isWrongField_75 (by decide) ?_
              refine lv_goto (tgt := 82) hx hb d_Code_isWrongField_77 (by decide) ?_
              exact j68_9 31 _ _ _ (by unfold fx_Code_isWrongField_j68; (repeat rw [if_neg c_12]); first | done | rfl | contradiction) (hP.sub (ws' := [(h0, .inr (2, [.ref hs, .ref hi, .ref hm, .int (nI n), .int cf1, .int o, .int ct1, .int ct2, .int co1, .int cf2, .int cg1, .int cb1, .int cn1, .int cn2, .int cr1, .int cr2]))]) [0] rfl) (hD.sub (ws' := [(h0, .inr (2, [.ref hs, .ref hi, .ref hm, .int (nI n), .int cf1, .int o, .int ct1, .int ct2, .int co1, .int cf2, .int cg1, .int cb1, .int cn1, .int cn2, .int cr1, .int cr2]))]) [0] (by decide) rfl) hS (lv_sub hl [0, 1] rfl)
    · refine lv_aload_n hx hb d_Code_isWrongField_16 rfl (lv_at hl 0 rfl) ?_
      refine va_get (D := D) (ci := 2) (v := .int cf2) (C := "FilterGuard$Code") (T := F_Code) (N := 16) hx hb hts i_Code hown hK hP 0 rfl rfl 9 (by decide) (hts _ u_247) (fun _ h9 => h9) rfl d_Code_isWrongField_17 ?_
      refine lv_if_ne (tgt := 27) hx hb d_Code_isWrongField_20 (by decide) (fun c_13 => ?_) (fun c_13 => ?_)
      · refine lv_iconst (v := 0) hx hb d_Code_isWrongField_27 (by decide) ?_
        exact fg_retz () hx hb hr hlocks rfl ⟨(by unfold fx_Code_isWrongField_r; (repeat rw [if_neg c_1]); (repeat rw [if_pos c_3]); (repeat rw [if_neg c_13]); first | done | rfl | contradiction), (Or.inr rfl)⟩ (hP.sub (ws' := [(h0, .inr (2, [.ref hs, .ref hi, .ref hm, .int (nI n), .int cf1, .int o, .int ct1, .int ct2, .int co1, .int cf2, .int cg1, .int cb1, .int cn1, .int cn2, .int cr1, .int cr2]))]) [0] rfl) (hK.sub (tys' := []) [] rfl) (hD.sub (ws' := [(h0, .inr (2, [.ref hs, .ref hi, .ref hm, .int (nI n), .int cf1, .int o, .int ct1, .int ct2, .int co1, .int cf2, .int cg1, .int cb1, .int cn1, .int cn2, .int cr1, .int cr2]))]) [0] (by decide) rfl) hS (Nat.le_of_ble_eq_true rfl) (Nat.le_of_ble_eq_true rfl) d_Code_isWrongField_28
      · refine lv_iconst (v := 1) hx hb d_Code_isWrongField_23 (by decide) ?_
        refine lv_goto (tgt := 28) hx hb d_Code_isWrongField_24 (by decide) ?_
        exact fg_retz () hx hb hr hlocks rfl ⟨(by unfold fx_Code_isWrongField_r; (repeat rw [if_neg c_1]); (repeat rw [if_pos c_3]); (repeat rw [if_pos c_13]); first | done | rfl | contradiction), (Or.inl rfl)⟩ (hP.sub (ws' := [(h0, .inr (2, [.ref hs, .ref hi, .ref hm, .int (nI n), .int cf1, .int o, .int ct1, .int ct2, .int co1, .int cf2, .int cg1, .int cb1, .int cn1, .int cn2, .int cr1, .int cr2]))]) [0] rfl) (hK.sub (tys' := []) [] rfl) (hD.sub (ws' := [(h0, .inr (2, [.ref hs, .ref hi, .ref hm, .int (nI n), .int cf1, .int o, .int ct1, .int ct2, .int co1, .int cf2, .int cg1, .int cb1, .int cn1, .int cn2, .int cr1, .int cr2]))]) [0] (by decide) rfl) hS (Nat.le_of_ble_eq_true rfl) (Nat.le_of_ble_eq_true rfl) d_Code_isWrongField_28
def fx_Code_isShaped_r (n : Nat) (ct1 : Int32) (ct2 : Int32) (co1 : Int32) (cf2 : Int32) (cg1 : Int32) (cn1 : Int32) (cr2 : Int32) (f : Nat → Int64) (x1 : Int32) : Int32 := (if cg1 = 1 then (if co1 = 0 then (if 1 < ct2 then 0 else (if (nI n) ≤ (x1 + 1) then 0 else (if ((f (x1 + 1).toNatClampNeg) &&& 4294967295) = 0 then (if ct2 = 0 then 1 else (if (f (x1 + 1).toNatClampNeg) = 0 then 1 else 0)) else 0))) else 0) else (if cg1 = 2 then (if cf2 = 0 then 1 else 0) else (if cg1 = 3 then (if cf2 = 0 then 1 else 0) else (if cg1 = 4 then (if ct2 = 0 then 1 else 0) else (if cg1 = 5 then (if cf2 = 0 then 1 else 0) else (if cg1 = 6 then (if co1 = 0 then (if (fx_Code_isOneOperand_r ct2 cf2 cr2) = 0 then 0 else (if (fx_Code_isFieldShaped_r cf2 cn1) = 0 then 0 else 1)) else 0) else (if cg1 = 7 then (if cf2 = 0 then (if ct1 = 0 then (if ct2 = 0 then 1 else 0) else 0) else 0) else (if cg1 = 8 then (fx_Code_isOneOperand_r ct2 cf2 cr2) else (if cg1 = 9 then (if co1 = 0 then (if ct1 = 0 then (if ct2 = 0 then 1 else 0) else 0) else 0) else (if cg1 = 10 then (if cf2 = 0 then (if co1 = 0 then (if ct1 = 0 then (if ct2 = 0 then 1 else 0) else 0) else 0) else 0) else 0))))))))))
def rm_Code_isShaped : Room := { frames := 2, cells := 0, slots := 0, locals := 60 }
abbrev q_Code_isShaped (D : va_G) (h0 : Nat) (hs : Nat) (hi : Nat) (hm : Nat) (n : Nat) (cf1 : Int32) (o : Int32) (ct1 : Int32) (ct2 : Int32) (co1 : Int32) (cf2 : Int32) (cg1 : Int32) (cb1 : Int32) (cn1 : Int32) (cn2 : Int32) (cr1 : Int32) (cr2 : Int32) (cs : ClassId) (f : Nat → Int64) (x1 : Int32) (A : Nat → Prop) : Array Value → Jvm.State → Outcome → Jvm.State → Prop := va_Qi (fun (r : Int32) (_ : Unit) => r = (fx_Code_isShaped_r n ct1 ct2 co1 cf2 cg1 cn1 cr2 f x1) ∧ (r = 1 ∨ r = 0)) (fg_B D A (fun (_ : Unit) => [(h0, .inr (2, [.ref hs, .ref hi, .ref hm, .int (nI n), .int cf1, .int o, .int ct1, .int ct2, .int co1, .int cf2, .int cg1, .int cb1, .int cn1, .int cn2, .int cr1, .int cr2])), (hs, .inl (cs, 2000, .inr (.inl f)))]) (fun (_ : Unit) => [])) A
set_option maxHeartbeats 4000000 in
set_option maxRecDepth 100000 in
theorem c_Code_isShaped (l : Launch) (D : va_G) (h0 : Nat) (hs : Nat) (hi : Nat) (hm : Nat) (n : Nat) (cf1 : Int32) (o : Int32) (ct1 : Int32) (ct2 : Int32) (co1 : Int32) (cf2 : Int32) (cg1 : Int32) (cb1 : Int32) (cn1 : Int32) (cn2 : Int32) (cr1 : Int32) (cr2 : Int32) (cs : ClassId) (f : Nat → Int64) (x1 : Int32) (sz : Nat) (hn : n ≤ 2000) (hx1 : ¬ x1 + 1 < 0) : Met l y_Code_isShaped (fg_w y_Code_isShaped prog_4_method_18_code 2 (some .boolean)) rm_Code_isShaped (va_Pc [.ref h0, .int x1] (fg_P D [(cs, .long)] [(h0, .inr (2, [.ref hs, .ref hi, .ref hm, .int (nI n), .int cf1, .int o, .int ct1, .int ct2, .int co1, .int cf2, .int cg1, .int cb1, .int cn1, .int cn2, .int cr1, .int cr2])), (hs, .inl (cs, 2000, .inr (.inl f)))] sz)) (q_Code_isShaped D h0 hs hi hm n cf1 o ct1 ct2 co1 cf2 cg1 cb1 cn1 cn2 cr1 cr2 cs f x1 (va_A [(h0, .inr (2, [.ref hs, .ref hi, .ref hm, .int (nI n), .int cf1, .int o, .int ct1, .int ct2, .int co1, .int cf2, .int cg1, .int cb1, .int cn1, .int cn2, .int cr1, .int cr2])), (hs, .inl (cs, 2000, .inr (.inl f)))] sz)) rm_Code_isShaped.cells rm_Code_isShaped.slots (va_A [(h0, .inr (2, [.ref hs, .ref hi, .ref hm, .int (nI n), .int cf1, .int o, .int ct1, .int ct2, .int co1, .int cf2, .int cg1, .int cb1, .int cn1, .int cn2, .int cr1, .int cr2])), (hs, .inl (cs, 2000, .inr (.inl f)))] sz) := by
  refine fg_enter (fun A => q_Code_isShaped D h0 hs hi hm n cf1 o ct1 ct2 co1 cf2 cg1 cb1 cn1 cn2 cr1 cr2 cs f x1 A) (by decide +kernel) (Nat.le_of_ble_eq_true rfl) ?_
  intro p e s m below meth c ls A hx hb hml hown hts hr hlocks hin hP hK hD hS hA hX hl
  have hl : lv_has ls 2 [(0, .ref h0), (1, .int x1)] := hl
  refine lv_aload_n hx hb d_Code_isShaped_0 rfl (lv_at hl 0 rfl) ?_
  refine va_get (D := D) (ci := 2) (v := .int cg1) (C := "FilterGuard$Code") (T := F_Code) (N := 16) hx hb hts i_Code hown hK hP 0 rfl rfl 10 (by decide) (hts _ u_252) (fun _ h9 => h9) rfl d_Code_isShaped_1 ?_
  refine lv_topi (fun y_1 ey_1 => ?_)
  by_cases n_2 : y_1 = 1
  · have gn_2 : cg1 = 1 := ey_1.symm.trans n_2
    subst n_2
    refine lv_tableIn (off := 56) (tgt := 60) hx hb d_Code_isShaped_4 (by decide) (by decide) (by decide) (by decide) ?_
    refine lv_aload_n hx hb d_Code_isShaped_60 rfl (lv_at hl 0 rfl) ?_
    refine va_get (D := D) (ci := 2) (v := .int co1) (C := "FilterGuard$Code") (T := F_Code) (N := 16) hx hb hts i_Code hown hK hP 0 rfl rfl 8 (by decide) (hts _ u_242) (fun _ h9 => h9) rfl d_Code_isShaped_61 ?_
    refine lv_if_ne (tgt := 126) hx hb d_Code_isShaped_64 (by decide) (fun c_3 => ?_) (fun c_3 => ?_)
    · refine lv_iconst (v := 0) hx hb d_Code_isShaped_126 (by decide) ?_
      exact fg_retz () hx hb hr hlocks rfl ⟨(by unfold fx_Code_isShaped_r; (repeat rw [if_pos gn_2]); (repeat rw [if_neg c_3]); first | done | rfl | contradiction), (Or.inr rfl)⟩ (hP.sub (ws' := [(h0, .inr (2, [.ref hs, .ref hi, .ref hm, .int (nI n), .int cf1, .int o, .int ct1, .int ct2, .int co1, .int cf2, .int cg1, .int cb1, .int cn1, .int cn2, .int cr1, .int cr2])), (hs, .inl (cs, 2000, .inr (.inl f)))]) [0, 1] rfl) (hK.sub (tys' := []) [] rfl) (hD.sub (ws' := [(h0, .inr (2, [.ref hs, .ref hi, .ref hm, .int (nI n), .int cf1, .int o, .int ct1, .int ct2, .int co1, .int cf2, .int cg1, .int cb1, .int cn1, .int cn2, .int cr1, .int cr2])), (hs, .inl (cs, 2000, .inr (.inl f)))]) [0, 1] (by decide) rfl) hS (Nat.le_of_ble_eq_true rfl) (Nat.le_of_ble_eq_true rfl) d_Code_isShaped_127
    · refine lv_aload_n hx hb d_Code_isShaped_67 rfl (lv_at hl 0 rfl) ?_
      refine va_get (D := D) (ci := 2) (v := .int ct2) (C := "FilterGuard$Code") (T := F_Code) (N := 16) hx hb hts i_Code hown hK hP 0 rfl rfl 7 (by decide) (hts _ u_238) (fun _ h9 => h9) rfl d_Code_isShaped_68 ?_
      refine lv_iconst (v := 1) hx hb d_Code_isShaped_71 (by decide) ?_
      refine lv_icmp_gt (tgt := 126) hx hb d_Code_isShaped_72 (by decide) (fun c_4 => ?_) (fun c_4 => ?_)
      · refine lv_iconst (v := 0) hx hb d_Code_isShaped_126 (by decide) ?_
        exact fg_retz () hx hb hr hlocks rfl ⟨(by unfold fx_Code_isShaped_r; (repeat rw [if_pos gn_2]); (repeat rw [if_pos c_3]); (repeat rw [if_pos c_4]); first | done | rfl | contradiction), (Or.inr rfl)⟩ (hP.sub (ws' := [(h0, .inr (2, [.ref hs, .ref hi, .ref hm, .int (nI n), .int cf1, .int o, .int ct1, .int ct2, .int co1, .int cf2, .int cg1, .int cb1, .int cn1, .int cn2, .int cr1, .int cr2])), (hs, .inl (cs, 2000, .inr (.inl f)))]) [0, 1] rfl) (hK.sub (tys' := []) [] rfl) (hD.sub (ws' := [(h0, .inr (2, [.ref hs, .ref hi, .ref hm, .int (nI n), .int cf1, .int o, .int ct1, .int ct2, .int co1, .int cf2, .int cg1, .int cb1, .int cn1, .int cn2, .int cr1, .int cr2])), (hs, .inl (cs, 2000, .inr (.inl f)))]) [0, 1] (by decide) rfl) hS (Nat.le_of_ble_eq_true rfl) (Nat.le_of_ble_eq_true rfl) d_Code_isShaped_127
      · refine lv_iload_n hx hb d_Code_isShaped_75 rfl (lv_at hl 1 rfl) ?_
        refine lv_iconst (v := 1) hx hb d_Code_isShaped_76 (by decide) ?_
        refine lv_iadd hx hb d_Code_isShaped_77 ?_
        refine lv_aload_n hx hb d_Code_isShaped_78 rfl (lv_at hl 0 rfl) ?_
        refine va_get (D := D) (ci := 2) (v := .int (nI n)) (C := "FilterGuard$Code") (T := F_Code) (N := 16) hx hb hts i_Code hown hK hP 0 rfl rfl 3 (by decide) (hts _ u_226) (fun _ h9 => h9) rfl d_Code_isShaped_79 ?_
        refine lv_icmp_ge (tgt := 126) hx hb d_Code_isShaped_82 (by decide) (fun c_5 => ?_) (fun c_5 => ?_)
        · refine lv_iconst (v := 0) hx hb d_Code_isShaped_126 (by decide) ?_
          exact fg_retz () hx hb hr hlocks rfl ⟨(by unfold fx_Code_isShaped_r; (repeat rw [if_pos gn_2]); (repeat rw [if_pos c_3]); (repeat rw [if_neg c_4]); (repeat rw [if_pos c_5]); first | done | rfl | contradiction), (Or.inr rfl)⟩ (hP.sub (ws' := [(h0, .inr (2, [.ref hs, .ref hi, .ref hm, .int (nI n), .int cf1, .int o, .int ct1, .int ct2, .int co1, .int cf2, .int cg1, .int cb1, .int cn1, .int cn2, .int cr1, .int cr2])), (hs, .inl (cs, 2000, .inr (.inl f)))]) [0, 1] rfl) (hK.sub (tys' := []) [] rfl) (hD.sub (ws' := [(h0, .inr (2, [.ref hs, .ref hi, .ref hm, .int (nI n), .int cf1, .int o, .int ct1, .int ct2, .int co1, .int cf2, .int cg1, .int cb1, .int cn1, .int cn2, .int cr1, .int cr2])), (hs, .inl (cs, 2000, .inr (.inl f)))]) [0, 1] (by decide) rfl) hS (Nat.le_of_ble_eq_true rfl) (Nat.le_of_ble_eq_true rfl) d_Code_isShaped_127
        · refine lv_aload_n hx hb d_Code_isShaped_85 rfl (lv_at hl 0 rfl) ?_
          refine va_get (D := D) (ci := 2) (v := .ref hs) (C := "FilterGuard$Code") (T := F_Code) (N := 16) hx hb hts i_Code hown hK hP 0 rfl rfl 0 (by decide) (hts _ u_220) (fun _ h9 => h9) rfl d_Code_isShaped_86 ?_
          refine lv_iload_n hx hb d_Code_isShaped_89 rfl (lv_at hl 1 rfl) ?_
          refine lv_iconst (v := 1) hx hb d_Code_isShaped_90 (by decide) ?_
          refine lv_iadd hx hb d_Code_isShaped_91 ?_
          refine va_lald hx hb hK hP 1 0 rfl rfl (fd_in hx1 c_5 hn (by decide)) d_Code_isShaped_92 ?_
          refine lv_ldc2 hx hb hown (hts _ u_987) d_Code_isShaped_93 ?_
          refine lv_land hx hb d_Code_isShaped_96 ?_
          refine lv_lconst (v := 0) hx hb d_Code_isShaped_97 (by decide) ?_
          refine W.lcmp hx hb d_Code_isShaped_98 ?_
          refine lv_if_ne (tgt := 126) hx hb d_Code_isShaped_99 (by decide) (fun c_6 => ?_) (fun c_6 => ?_)
          · have gc_6 : ¬ ((f (x1 + 1).toNatClampNeg) &&& 4294967295) = 0 := fun z => c_6 ((lg_cmp_eq _ _).mpr z)
            refine lv_iconst (v := 0) hx hb d_Code_isShaped_126 (by decide) ?_
            exact fg_retz () hx hb hr hlocks rfl ⟨(by unfold fx_Code_isShaped_r; (repeat rw [if_pos gn_2]); (repeat rw [if_pos c_3]); (repeat rw [if_neg c_4]); (repeat rw [if_neg c_5]); (repeat rw [if_neg gc_6]); first | done | rfl | contradiction), (Or.inr rfl)⟩ (hP.sub (ws' := [(h0, .inr (2, [.ref hs, .ref hi, .ref hm, .int (nI n), .int cf1, .int o, .int ct1, .int ct2, .int co1, .int cf2, .int cg1, .int cb1, .int cn1, .int cn2, .int cr1, .int cr2])), (hs, .inl (cs, 2000, .inr (.inl f)))]) [0, 1] rfl) (hK.sub (tys' := []) [] rfl) (hD.sub (ws' := [(h0, .inr (2, [.ref hs, .ref hi, .ref hm, .int (nI n), .int cf1, .int o, .int ct1, .int ct2, .int co1, .int cf2, .int cg1, .int cb1, .int cn1, .int cn2, .int cr1, .int cr2])), (hs, .inl (cs, 2000, .inr (.inl f)))]) [0, 1] (by decide) rfl) hS (Nat.le_of_ble_eq_true rfl) (Nat.le_of_ble_eq_true rfl) d_Code_isShaped_127
          · have gc_6 : ((f (x1 + 1).toNatClampNeg) &&& 4294967295) = 0 := (lg_cmp_eq _ _).mp c_6
            refine lv_aload_n hx hb d_Code_isShaped_102 rfl (lv_at hl 0 rfl) ?_
            refine va_get (D := D) (ci := 2) (v := .int ct2) (C := "FilterGuard$Code") (T := F_Code) (N := 16) hx hb hts i_Code hown hK hP 0 rfl rfl 7 (by decide) (hts _ u_238) (fun _ h9 => h9) rfl d_Code_isShaped_103 ?_
            refine lv_if_eq (tgt := 122) hx hb d_Code_isShaped_106 (by decide) (fun c_7 => ?_) (fun c_7 => ?_)
            · refine lv_iconst (v := 1) hx hb d_Code_isShaped_122 (by decide) ?_
              refine lv_goto (tgt := 127) hx hb d_Code_isShaped_123 (by decide) ?_
              exact fg_retz () hx hb hr hlocks rfl ⟨(by unfold fx_Code_isShaped_r; (repeat rw [if_pos gn_2]); (repeat rw [if_pos c_3]); (repeat rw [if_neg c_4]); (repeat rw [if_neg c_5]); (repeat rw [if_pos gc_6]); (repeat rw [if_pos c_7]); first | done | rfl | contradiction), (Or.inl rfl)⟩ (hP.sub (ws' := [(h0, .inr (2, [.ref hs, .ref hi, .ref hm, .int (nI n), .int cf1, .int o, .int ct1, .int ct2, .int co1, .int cf2, .int cg1, .int cb1, .int cn1, .int cn2, .int cr1, .int cr2])), (hs, .inl (cs, 2000, .inr (.inl f)))]) [0, 1] rfl) (hK.sub (tys' := []) [] rfl) (hD.sub (ws' := [(h0, .inr (2, [.ref hs, .ref hi, .ref hm, .int (nI n), .int cf1, .int o, .int ct1, .int ct2, .int co1, .int cf2, .int cg1, .int cb1, .int cn1, .int cn2, .int cr1, .int cr2])), (hs, .inl (cs, 2000, .inr (.inl f)))]) [0, 1] (by decide) rfl) hS (Nat.le_of_ble_eq_true rfl) (Nat.le_of_ble_eq_true rfl) d_Code_isShaped_127
            · refine lv_aload_n hx hb d_Code_isShaped_109 rfl (lv_at hl 0 rfl) ?_
              refine va_get (D := D) (ci := 2) (v := .ref hs) (C := "FilterGuard$Code") (T := F_Code) (N := 16) hx hb hts i_Code hown hK hP 0 rfl rfl 0 (by decide) (hts _ u_220) (fun _ h9 => h9) rfl d_Code_isShaped_110 ?_
              refine lv_iload_n hx hb d_Code_isShaped_113 rfl (lv_at hl 1 rfl) ?_
              refine lv_iconst (v := 1) hx hb d_Code_isShaped_114 (by decide) ?_
              refine lv_iadd hx hb d_Code_isShaped_115 ?_
              refine va_lald hx hb hK hP 1 0 rfl rfl (fd_in hx1 c_5 hn (by decide)) d_Code_isShaped_116 ?_
              refine lv_lconst (v := 0) hx hb d_Code_isShaped_117 (by decide) ?_
              refine W.lcmp hx hb d_Code_isShaped_118 ?_
              refine lv_if_ne (tgt := 126) hx hb d_Code_isShaped_119 (by decide) (fun c_8 => ?_) (fun c_8 => ?_)
              · have gc_8 : ¬ (f (x1 + 1).toNatClampNeg) = 0 := fun z => c_8 ((lg_cmp_eq _ _).mpr z)
                refine lv_iconst (v := 0) hx hb d_Code_isShaped_126 (by decide) ?_
                exact fg_retz () hx hb hr hlocks rfl ⟨(by unfold fx_Code_isShaped_r; (repeat rw [if_pos gn_2]); (repeat rw [if_pos c_3]); (repeat rw [if_neg c_4]); (repeat rw [if_neg c_5]); (repeat rw [if_pos gc_6]); (repeat rw [if_neg c_7]); (repeat rw [if_neg gc_8]); first | done | rfl | contradiction), (Or.inr rfl)⟩ (hP.sub (ws' := [(h0, .inr (2, [.ref hs, .ref hi, .ref hm, .int (nI n), .int cf1, .int o, .int ct1, .int ct2, .int co1, .int cf2, .int cg1, .int cb1, .int cn1, .int cn2, .int cr1, .int cr2])), (hs, .inl (cs, 2000, .inr (.inl f)))]) [0, 1] rfl) (hK.sub (tys' := []) [] rfl) (hD.sub (ws' := [(h0, .inr (2, [.ref hs, .ref hi, .ref hm, .int (nI n), .int cf1, .int o, .int ct1, .int ct2, .int co1, .int cf2, .int cg1, .int cb1, .int cn1, .int cn2, .int cr1, .int cr2])), (hs, .inl (cs, 2000, .inr (.inl f)))]) [0, 1] (by decide) rfl) hS (Nat.le_of_ble_eq_true rfl) (Nat.le_of_ble_eq_true rfl) d_Code_isShaped_127
              · have gc_8 : (f (x1 + 1).toNatClampNeg) = 0 := (lg_cmp_eq _ _).mp c_8
                refine lv_iconst (v := 1) hx hb d_Code_isShaped_122 (by decide) ?_
                refine lv_goto (tgt := 127) hx hb d_Code_isShaped_123 (by decide) ?_
                exact fg_retz () hx hb hr hlocks rfl ⟨(by unfold fx_Code_isShaped_r; (repeat rw [if_pos gn_2]); (repeat rw [if_pos c_3]); (repeat rw [if_neg c_4]); (repeat rw [if_neg c_5]); (repeat rw [if_pos gc_6]); (repeat rw [if_neg c_7]); (repeat rw [if_pos gc_8]); first | done | rfl | contradiction), (Or.inl rfl)⟩ (hP.sub (ws' := [(h0, .inr (2, [.ref hs, .ref hi, .ref hm, .int (nI n), .int cf1, .int o, .int ct1, .int ct2, .int co1, .int cf2, .int cg1, .int cb1, .int cn1, .int cn2, .int cr1, .int cr2])), (hs, .inl (cs, 2000, .inr (.inl f)))]) [0, 1] rfl) (hK.sub (tys' := []) [] rfl) (hD.sub (ws' := [(h0, .inr (2, [.ref hs, .ref hi, .ref hm, .int (nI n), .int cf1, .int o, .int ct1, .int ct2, .int co1, .int cf2, .int cg1, .int cb1, .int cn1, .int cn2, .int cr1, .int cr2])), (hs, .inl (cs, 2000, .inr (.inl f)))]) [0, 1] (by decide) rfl) hS (Nat.le_of_ble_eq_true rfl) (Nat.le_of_ble_eq_true rfl) d_Code_isShaped_127
  have gn_2 : ¬ cg1 = 1 := fun z => n_2 (ey_1.trans z)
  by_cases n_9 : y_1 = 2
  · have gn_9 : cg1 = 2 := ey_1.symm.trans n_9
    subst n_9
    refine lv_tableIn (off := 124) (tgt := 128) hx hb d_Code_isShaped_4 (by decide) (by decide) (by decide) (by decide) ?_
    refine lv_aload_n hx hb d_Code_isShaped_128 rfl (lv_at hl 0 rfl) ?_
    refine va_get (D := D) (ci := 2) (v := .int cf2) (C := "FilterGuard$Code") (T := F_Code) (N := 16) hx hb hts i_Code hown hK hP 0 rfl rfl 9 (by decide) (hts _ u_247) (fun _ h9 => h9) rfl d_Code_isShaped_129 ?_
    refine lv_if_ne (tgt := 139) hx hb d_Code_isShaped_132 (by decide) (fun c_10 => ?_) (fun c_10 => ?_)
    · refine lv_iconst (v := 0) hx hb d_Code_isShaped_139 (by decide) ?_
      exact fg_retz () hx hb hr hlocks rfl ⟨(by unfold fx_Code_isShaped_r; (repeat rw [if_neg gn_2]); (repeat rw [if_pos gn_9]); (repeat rw [if_neg c_10]); first | done | rfl | contradiction), (Or.inr rfl)⟩ (hP.sub (ws' := [(h0, .inr (2, [.ref hs, .ref hi, .ref hm, .int (nI n), .int cf1, .int o, .int ct1, .int ct2, .int co1, .int cf2, .int cg1, .int cb1, .int cn1, .int cn2, .int cr1, .int cr2])), (hs, .inl (cs, 2000, .inr (.inl f)))]) [0, 1] rfl) (hK.sub (tys' := []) [] rfl) (hD.sub (ws' := [(h0, .inr (2, [.ref hs, .ref hi, .ref hm, .int (nI n), .int cf1, .int o, .int ct1, .int ct2, .int co1, .int cf2, .int cg1, .int cb1, .int cn1, .int cn2, .int cr1, .int cr2])), (hs, .inl (cs, 2000, .inr (.inl f)))]) [0, 1] (by decide) rfl) hS (Nat.le_of_ble_eq_true rfl) (Nat.le_of_ble_eq_true rfl) d_Code_isShaped_140
    · refine lv_iconst (v := 1) hx hb d_Code_isShaped_135 (by decide) ?_
      refine lv_goto (tgt := 140) hx hb d_Code_isShaped_136 (by decide) ?_
      exact fg_retz () hx hb hr hlocks rfl ⟨(by unfold fx_Code_isShaped_r; (repeat rw [if_neg gn_2]); (repeat rw [if_pos gn_9]); (repeat rw [if_pos c_10]); first | done | rfl | contradiction), (Or.inl rfl)⟩ (hP.sub (ws' := [(h0, .inr (2, [.ref hs, .ref hi, .ref hm, .int (nI n), .int cf1, .int o, .int ct1, .int ct2, .int co1, .int cf2, .int cg1, .int cb1, .int cn1, .int cn2, .int cr1, .int cr2])), (hs, .inl (cs, 2000, .inr (.inl f)))]) [0, 1] rfl) (hK.sub (tys' := []) [] rfl) (hD.sub (ws' := [(h0, .inr (2, [.ref hs, .ref hi, .ref hm, .int (nI n), .int cf1, .int o, .int ct1, .int ct2, .int co1, .int cf2, .int cg1, .int cb1, .int cn1, .int cn2, .int cr1, .int cr2])), (hs, .inl (cs, 2000, .inr (.inl f)))]) [0, 1] (by decide) rfl) hS (Nat.le_of_ble_eq_true rfl) (Nat.le_of_ble_eq_true rfl) d_Code_isShaped_140
  have gn_9 : ¬ cg1 = 2 := fun z => n_9 (ey_1.trans z)
  by_cases n_11 : y_1 = 3
  · have gn_11 : cg1 = 3 := ey_1.symm.trans n_11
    subst n_11
    refine lv_tableIn (off := 124) (tgt := 128) hx hb d_Code_isShaped_4 (by decide) (by decide) (by decide) (by decide) ?_
    refine lv_aload_n hx hb d_Code_isShaped_128 rfl (lv_at hl 0 rfl) ?_
    refine va_get (D := D) (ci := 2) (v := .int cf2) (C := "FilterGuard$Code") (T := F_Code) (N := 16) hx hb hts i_Code hown hK hP 0 rfl rfl 9 (by decide) (hts _ u_247) (fun _ h9 => h9) rfl d_Code_isShaped_129 ?_
    refine lv_if_ne (tgt := 139) hx hb d_Code_isShaped_132 (by decide) (fun c_12 => ?_) (fun c_12 => ?_)
    · refine lv_iconst (v := 0) hx hb d_Code_isShaped_139 (by decide) ?_
      exact fg_retz () hx hb hr hlocks rfl ⟨(by unfold fx_Code_isShaped_r; (repeat rw [if_neg gn_2]); (repeat rw [if_neg gn_9]); (repeat rw [if_pos gn_11]); (repeat rw [if_neg c_12]); first | done | rfl | contradiction), (Or.inr rfl)⟩ (hP.sub (ws' := [(h0, .inr (2, [.ref hs, .ref hi, .ref hm, .int (nI n), .int cf1, .int o, .int ct1, .int ct2, .int co1, .int cf2, .int cg1, .int cb1, .int cn1, .int cn2, .int cr1, .int cr2])), (hs, .inl (cs, 2000, .inr (.inl f)))]) [0, 1] rfl) (hK.sub (tys' := []) [] rfl) (hD.sub (ws' := [(h0, .inr (2, [.ref hs, .ref hi, .ref hm, .int (nI n), .int cf1, .int o, .int ct1, .int ct2, .int co1, .int cf2, .int cg1, .int cb1, .int cn1, .int cn2, .int cr1, .int cr2])), (hs, .inl (cs, 2000, .inr (.inl f)))]) [0, 1] (by decide) rfl) hS (Nat.le_of_ble_eq_true rfl) (Nat.le_of_ble_eq_true rfl) d_Code_isShaped_140
    · refine lv_iconst (v := 1) hx hb d_Code_isShaped_135 (by decide) ?_
      refine lv_goto (tgt := 140) hx hb d_Code_isShaped_136 (by decide) ?_
      exact fg_retz () hx hb hr hlocks rfl ⟨(by unfold fx_Code_isShaped_r; (repeat rw [if_neg gn_2]); (repeat rw [if_neg gn_9]); (repeat rw [if_pos gn_11]); (repeat rw [if_pos c_12]); first | done | rfl | contradiction), (Or.inl rfl)⟩ (hP.sub (ws' := [(h0, .inr (2, [.ref hs, .ref hi, .ref hm, .int (nI n), .int cf1, .int o, .int ct1, .int ct2, .int co1, .int cf2, .int cg1, .int cb1, .int cn1, .int cn2, .int cr1, .int cr2])), (hs, .inl (cs, 2000, .inr (.inl f)))]) [0, 1] rfl) (hK.sub (tys' := []) [] rfl) (hD.sub (ws' := [(h0, .inr (2, [.ref hs, .ref hi, .ref hm, .int (nI n), .int cf1, .int o, .int ct1, .int ct2, .int co1, .int cf2, .int cg1, .int cb1, .int cn1, .int cn2, .int cr1, .int cr2])), (hs, .inl (cs, 2000, .inr (.inl f)))]) [0, 1] (by decide) rfl) hS (Nat.le_of_ble_eq_true rfl) (Nat.le_of_ble_eq_true rfl) d_Code_isShaped_140
  have gn_11 : ¬ cg1 = 3 := fun z => n_11 (ey_1.trans z)
  by_cases n_13 : y_1 = 4
  · have gn_13 : cg1 = 4 := ey_1.symm.trans n_13
    subst n_13
    refine lv_tableIn (off := 137) (tgt := 141) hx hb d_Code_isShaped_4 (by decide) (by decide) (by decide) (by decide) ?_
    refine lv_aload_n hx hb d_Code_isShaped_141 rfl (lv_at hl 0 rfl) ?_
    refine va_get (D := D) (ci := 2) (v := .int ct2) (C := "FilterGuard$Code") (T := F_Code) (N := 16) hx hb hts i_Code hown hK hP 0 rfl rfl 7 (by decide) (hts _ u_238) (fun _ h9 => h9) rfl d_Code_isShaped_142 ?_
    refine lv_if_ne (tgt := 152) hx hb d_Code_isShaped_145 (by decide) (fun c_14 => ?_) (fun c_14 => ?_)
    · refine lv_iconst (v := 0) hx hb d_Code_isShaped_152 (by decide) ?_
      exact fg_retz () hx hb hr hlocks rfl ⟨(by unfold fx_Code_isShaped_r; (repeat rw [if_neg gn_2]); (repeat rw [if_neg gn_9]); (repeat rw [if_neg gn_11]); (repeat rw [if_pos gn_13]); (repeat rw [if_neg c_14]); first | done | rfl | contradiction), (Or.inr rfl)⟩ (hP.sub (ws' := [(h0, .inr (2, [.ref hs, .ref hi, .ref hm, .int (nI n), .int cf1, .int o, .int ct1, .int ct2, .int co1, .int cf2, .int cg1, .int cb1, .int cn1, .int cn2, .int cr1, .int cr2])), (hs, .inl (cs, 2000, .inr (.inl f)))]) [0, 1] rfl) (hK.sub (tys' := []) [] rfl) (hD.sub (ws' := [(h0, .inr (2, [.ref hs, .ref hi, .ref hm, .int (nI n), .int cf1, .int o, .int ct1, .int ct2, .int co1, .int cf2, .int cg1, .int cb1, .int cn1, .int cn2, .int cr1, .int cr2])), (hs, .inl (cs, 2000, .inr (.inl f)))]) [0, 1] (by decide) rfl) hS (Nat.le_of_ble_eq_true rfl) (Nat.le_of_ble_eq_true rfl) d_Code_isShaped_153
    · refine lv_iconst (v := 1) hx hb d_Code_isShaped_148 (by decide) ?_
      refine lv_goto (tgt := 153) hx hb d_Code_isShaped_149 (by decide) ?_
      exact fg_retz () hx hb hr hlocks rfl ⟨(by unfold fx_Code_isShaped_r; (repeat rw [if_neg gn_2]); (repeat rw [if_neg gn_9]); (repeat rw [if_neg gn_11]); (repeat rw [if_pos gn_13]); (repeat rw [if_pos c_14]); first | done | rfl | contradiction), (Or.inl rfl)⟩ (hP.sub (ws' := [(h0, .inr (2, [.ref hs, .ref hi, .ref hm, .int (nI n), .int cf1, .int o, .int ct1, .int ct2, .int co1, .int cf2, .int cg1, .int cb1, .int cn1, .int cn2, .int cr1, .int cr2])), (hs, .inl (cs, 2000, .inr (.inl f)))]) [0, 1] rfl) (hK.sub (tys' := []) [] rfl) (hD.sub (ws' := [(h0, .inr (2, [.ref hs, .ref hi, .ref hm, .int (nI n), .int cf1, .int o, .int ct1, .int ct2, .int co1, .int cf2, .int cg1, .int cb1, .int cn1, .int cn2, .int cr1, .int cr2])), (hs, .inl (cs, 2000, .inr (.inl f)))]) [0, 1] (by decide) rfl) hS (Nat.le_of_ble_eq_true rfl) (Nat.le_of_ble_eq_true rfl) d_Code_isShaped_153
  have gn_13 : ¬ cg1 = 4 := fun z => n_13 (ey_1.trans z)
  by_cases n_15 : y_1 = 5
  · have gn_15 : cg1 = 5 := ey_1.symm.trans n_15
    subst n_15
    refine lv_tableIn (off := 124) (tgt := 128) hx hb d_Code_isShaped_4 (by decide) (by decide) (by decide) (by decide) ?_
    refine lv_aload_n hx hb d_Code_isShaped_128 rfl (lv_at hl 0 rfl) ?_
    refine va_get (D := D) (ci := 2) (v := .int cf2) (C := "FilterGuard$Code") (T := F_Code) (N := 16) hx hb hts i_Code hown hK hP 0 rfl rfl 9 (by decide) (hts _ u_247) (fun _ h9 => h9) rfl d_Code_isShaped_129 ?_
    refine lv_if_ne (tgt := 139) hx hb d_Code_isShaped_132 (by decide) (fun c_16 => ?_) (fun c_16 => ?_)
    · refine lv_iconst (v := 0) hx hb d_Code_isShaped_139 (by decide) ?_
      exact fg_retz () hx hb hr hlocks rfl ⟨(by unfold fx_Code_isShaped_r; (repeat rw [if_neg gn_2]); (repeat rw [if_neg gn_9]); (repeat rw [if_neg gn_11]); (repeat rw [if_neg gn_13]); (repeat rw [if_pos gn_15]); (repeat rw [if_neg c_16]); first | done | rfl | contradiction), (Or.inr rfl)⟩ (hP.sub (ws' := [(h0, .inr (2, [.ref hs, .ref hi, .ref hm, .int (nI n), .int cf1, .int o, .int ct1, .int ct2, .int co1, .int cf2, .int cg1, .int cb1, .int cn1, .int cn2, .int cr1, .int cr2])), (hs, .inl (cs, 2000, .inr (.inl f)))]) [0, 1] rfl) (hK.sub (tys' := []) [] rfl) (hD.sub (ws' := [(h0, .inr (2, [.ref hs, .ref hi, .ref hm, .int (nI n), .int cf1, .int o, .int ct1, .int ct2, .int co1, .int cf2, .int cg1, .int cb1, .int cn1, .int cn2, .int cr1, .int cr2])), (hs, .inl (cs, 2000, .inr (.inl f)))]) [0, 1] (by decide) rfl) hS (Nat.le_of_ble_eq_true rfl) (Nat.le_of_ble_eq_true rfl) d_Code_isShaped_140
    · refine lv_iconst (v := 1) hx hb d_Code_isShaped_135 (by decide) ?_
      refine lv_goto (tgt := 140) hx hb d_Code_isShaped_136 (by decide) ?_
      exact fg_retz () hx hb hr hlocks rfl ⟨(by unfold fx_Code_isShaped_r; (repeat rw [if_neg gn_2]); (repeat rw [if_neg gn_9]); (repeat rw [if_neg gn_11]); (repeat rw [if_neg gn_13]); (repeat rw [if_pos gn_15]); (repeat rw [if_pos c_16]); first | done | rfl | contradiction), (Or.inl rfl)⟩ (hP.sub (ws' := [(h0, .inr (2, [.ref hs, .ref hi, .ref hm, .int (nI n), .int cf1, .int o, .int ct1, .int ct2, .int co1, .int cf2, .int cg1, .int cb1, .int cn1, .int cn2, .int cr1, .int cr2])), (hs, .inl (cs, 2000, .inr (.inl f)))]) [0, 1] rfl) (hK.sub (tys' := []) [] rfl) (hD.sub (ws' := [(h0, .inr (2, [.ref hs, .ref hi, .ref hm, .int (nI n), .int cf1, .int o, .int ct1, .int ct2, .int co1, .int cf2, .int cg1, .int cb1, .int cn1, .int cn2, .int cr1, .int cr2])), (hs, .inl (cs, 2000, .inr (.inl f)))]) [0, 1] (by decide) rfl) hS (Nat.le_of_ble_eq_true rfl) (Nat.le_of_ble_eq_true rfl) d_Code_isShaped_140
  have gn_15 : ¬ cg1 = 5 := fun z => n_15 (ey_1.trans z)
  by_cases n_17 : y_1 = 6
  · have gn_17 : cg1 = 6 := ey_1.symm.trans n_17
    subst n_17
    refine lv_tableIn (off := 150) (tgt := 154) hx hb d_Code_isShaped_4 (by decide) (by decide) (by decide) (by decide) ?_
    refine lv_aload_n hx hb d_Code_isShaped_154 rfl (lv_at hl 0 rfl) ?_
    refine va_get (D := D) (ci := 2) (v := .int co1) (C := "FilterGuard$Code") (T := F_Code) (N := 16) hx hb hts i_Code hown hK hP 0 rfl rfl 8 (by decide) (hts _ u_242) (fun _ h9 => h9) rfl d_Code_isShaped_155 ?_
    refine lv_if_ne (tgt := 179) hx hb d_Code_isShaped_158 (by decide) (fun c_18 => ?_) (fun c_18 => ?_)
    · refine lv_iconst (v := 0) hx hb d_Code_isShaped_179 (by decide) ?_
      exact fg_retz () hx hb hr hlocks rfl ⟨(by unfold fx_Code_isShaped_r; (repeat rw [if_neg gn_2]); (repeat rw [if_neg gn_9]); (repeat rw [if_neg gn_11]); (repeat rw [if_neg gn_13]); (repeat rw [if_neg gn_15]); (repeat rw [if_pos gn_17]); (repeat rw [if_neg c_18]); first | done | rfl | contradiction), (Or.inr rfl)⟩ (hP.sub (ws' := [(h0, .inr (2, [.ref hs, .ref hi, .ref hm, .int (nI n), .int cf1, .int o, .int ct1, .int ct2, .int co1, .int cf2, .int cg1, .int cb1, .int cn1, .int cn2, .int cr1, .int cr2])), (hs, .inl (cs, 2000, .inr (.inl f)))]) [0, 1] rfl) (hK.sub (tys' := []) [] rfl) (hD.sub (ws' := [(h0, .inr (2, [.ref hs, .ref hi, .ref hm, .int (nI n), .int cf1, .int o, .int ct1, .int ct2, .int co1, .int cf2, .int cg1, .int cb1, .int cn1, .int cn2, .int cr1, .int cr2])), (hs, .inl (cs, 2000, .inr (.inl f)))]) [0, 1] (by decide) rfl) hS (Nat.le_of_ble_eq_true rfl) (Nat.le_of_ble_eq_true rfl) d_Code_isShaped_180
    · refine lv_aload_n hx hb d_Code_isShaped_161 rfl (lv_at hl 0 rfl) ?_
      refine fg_theni (wr := [(hs, .inl (cs, 2000, .inr (.inl f)))]) (fg_runV (C := "FilterGuard$Code") (As := []) (rest := []) (ci := 2) (q0 := 0) ⟨hx, hb, hml, hown, hts⟩ (c_Code_isOneOperand l D h0 hs hi hm n cf1 o ct1 ct2 co1 cf2 cg1 cb1 cn1 cn2 cr1 cr2 s.heap.size) rfl (by show fg_nm y_Code_isOneOperand 0; decide +kernel) u_988 u_990 u_8 u_182 u_991 ⟨Nat.le_of_ble_eq_true rfl, Nat.le_of_ble_eq_true rfl⟩ hX (hP.sub (ws' := [(h0, .inr (2, [.ref hs, .ref hi, .ref hm, .int (nI n), .int cf1, .int o, .int ct1, .int ct2, .int co1, .int cf2, .int cg1, .int cb1, .int cn1, .int cn2, .int cr1, .int cr2]))]) [0] rfl) (hK.sub (tys' := []) [] rfl) (hD.sub (ws' := [(h0, .inr (2, [.ref hs, .ref hi, .ref hm, .int (nI n), .int cf1, .int o, .int ct1, .int ct2, .int co1, .int cf2, .int cg1, .int cb1, .int cn1, .int cn2, .int cr1, .int cr2]))]) [0] (by decide) rfl) rfl rfl rfl rfl hl.1 (Nat.le_of_ble_eq_true rfl) d_Code_isShaped_162 ⟨(Nat.le_of_ble_eq_true rfl), (Nat.le_of_ble_eq_true rfl)⟩) hP hD hK hS hA [0] [1] rfl rfl (by decide) (by decide) (fun r162_19 u H locs hw162_18 hP hD hK hS => ?_)
      try dsimp only at hw162_18
      have hP : va_P D classes [(hs, .inl (cs, 2000, .inr (.inl f))), (h0, .inr (2, [.ref hs, .ref hi, .ref hm, .int (nI n), .int cf1, .int o, .int ct1, .int ct2, .int co1, .int cf2, .int cg1, .int cb1, .int cn1, .int cn2, .int cr1, .int cr2]))] H := hP
      have hD : va_D A [(hs, .inl (cs, 2000, .inr (.inl f))), (h0, .inr (2, [.ref hs, .ref hi, .ref hm, .int (nI n), .int cf1, .int o, .int ct1, .int ct2, .int co1, .int cf2, .int cg1, .int cb1, .int cn1, .int cn2, .int cr1, .int cr2]))] := hD
      have hK : va_K D classes [(cs, .long)] s := hK
      refine W.widen (k := 0) (n := 0) (Nat.le_of_ble_eq_true rfl) (Nat.le_of_ble_eq_true rfl) ?_
      obtain ⟨hw162_18_0, hw162_18_1⟩ := hw162_18
      subst hw162_18_0
      have hP : va_P D classes [(hs, .inl (cs, 2000, .inr (.inl f))), (h0, .inr (2, [.ref hs, .ref hi, .ref hm, .int (nI n), .int cf1, .int o, .int ct1, .int ct2, .int co1, .int cf2, .int cg1, .int cb1, .int cn1, .int cn2, .int cr1, .int cr2]))] H := hP
      have hD : va_D A [(hs, .inl (cs, 2000, .inr (.inl f))), (h0, .inr (2, [.ref hs, .ref hi, .ref hm, .int (nI n), .int cf1, .int o, .int ct1, .int ct2, .int co1, .int cf2, .int cg1, .int cb1, .int cn1, .int cn2, .int cr1, .int cr2]))] := hD
      refine lv_if_eq (tgt := 179) hx hb d_Code_isShaped_165 (by decide) (fun c_20 => ?_) (fun c_20 => ?_)
      · refine lv_iconst (v := 0) hx hb d_Code_isShaped_179 (by decide) ?_
        exact fg_retz () hx hb hr hlocks rfl ⟨(by unfold fx_Code_isShaped_r; (repeat rw [if_neg gn_2]); (repeat rw [if_neg gn_9]); (repeat rw [if_neg gn_11]); (repeat rw [if_neg gn_13]); (repeat rw [if_neg gn_15]); (repeat rw [if_pos gn_17]); (repeat rw [if_pos c_18]); (repeat rw [if_pos c_20]); first | done | rfl | contradiction), (Or.inr rfl)⟩ (hP.sub (ws' := [(h0, .inr (2, [.ref hs, .ref hi, .ref hm, .int (nI n), .int cf1, .int o, .int ct1, .int ct2, .int co1, .int cf2, .int cg1, .int cb1, .int cn1, .int cn2, .int cr1, .int cr2])), (hs, .inl (cs, 2000, .inr (.inl f)))]) [1, 0] rfl) (hK.sub (tys' := []) [] rfl) (hD.sub (ws' := [(h0, .inr (2, [.ref hs, .ref hi, .ref hm, .int (nI n), .int cf1, .int o, .int ct1, .int ct2, .int co1, .int cf2, .int cg1, .int cb1, .int cn1, .int cn2, .int cr1, .int cr2])), (hs, .inl (cs, 2000, .inr (.inl f)))]) [1, 0] (by decide) rfl) hS (Nat.le_of_ble_eq_true rfl) (Nat.le_of_ble_eq_true rfl) d_Code_isShaped_180
      · refine lv_aload_n hx hb d_Code_isShaped_168 rfl (lv_at hl 0 rfl) ?_
        refine fg_theni (wr := [(hs, .inl (cs, 2000, .inr (.inl f)))]) (fg_runV (C := "FilterGuard$Code") (As := []) (rest := []) (ci := 2) (q0 := 0) ⟨hx, hb, hml, hown, hts⟩ (c_Code_isFieldShaped l D h0 hs hi hm n cf1 o ct1 ct2 co1 cf2 cg1 cb1 cn1 cn2 cr1 cr2 H.size) rfl (by show fg_nm y_Code_isFieldShaped 0; decide +kernel) u_992 u_994 u_9 u_182 u_995 ⟨Nat.le_of_ble_eq_true rfl, Nat.le_of_ble_eq_true rfl⟩ hX (hP.sub (ws' := [(h0, .inr (2, [.ref hs, .ref hi, .ref hm, .int (nI n), .int cf1, .int o, .int ct1, .int ct2, .int co1, .int cf2, .int cg1, .int cb1, .int cn1, .int cn2, .int cr1, .int cr2]))]) [1] rfl) (hK.sub (tys' := []) [] rfl) (hD.sub (ws' := [(h0, .inr (2, [.ref hs, .ref hi, .ref hm, .int (nI n), .int cf1, .int o, .int ct1, .int ct2, .int co1, .int cf2, .int cg1, .int cb1, .int cn1, .int cn2, .int cr1, .int cr2]))]) [1] (by decide) rfl) rfl rfl rfl rfl hl.1 (Nat.le_of_ble_eq_true rfl) d_Code_isShaped_169 ⟨(Nat.le_of_ble_eq_true rfl), (Nat.le_of_ble_eq_true rfl)⟩) hP hD hK hS hA [1] [0] rfl rfl (by decide) (by decide) (fun r169_21 u H locs hw169_20 hP hD hK hS => ?_)
        try dsimp only at hw169_20
        have hP : va_P D classes [(hs, .inl (cs, 2000, .inr (.inl f))), (h0, .inr (2, [.ref hs, .ref hi, .ref hm, .int (nI n), .int cf1, .int o, .int ct1, .int ct2, .int co1, .int cf2, .int cg1, .int cb1, .int cn1, .int cn2, .int cr1, .int cr2]))] H := hP
        have hD : va_D A [(hs, .inl (cs, 2000, .inr (.inl f))), (h0, .inr (2, [.ref hs, .ref hi, .ref hm, .int (nI n), .int cf1, .int o, .int ct1, .int ct2, .int co1, .int cf2, .int cg1, .int cb1, .int cn1, .int cn2, .int cr1, .int cr2]))] := hD
        have hK : va_K D classes [(cs, .long)] s := hK
        refine W.widen (k := 0) (n := 0) (Nat.le_of_ble_eq_true rfl) (Nat.le_of_ble_eq_true rfl) ?_
        obtain ⟨hw169_20_0, hw169_20_1⟩ := hw169_20
        subst hw169_20_0
        have hP : va_P D classes [(hs, .inl (cs, 2000, .inr (.inl f))), (h0, .inr (2, [.ref hs, .ref hi, .ref hm, .int (nI n), .int cf1, .int o, .int ct1, .int ct2, .int co1, .int cf2, .int cg1, .int cb1, .int cn1, .int cn2, .int cr1, .int cr2]))] H := hP
        have hD : va_D A [(hs, .inl (cs, 2000, .inr (.inl f))), (h0, .inr (2, [.ref hs, .ref hi, .ref hm, .int (nI n), .int cf1, .int o, .int ct1, .int ct2, .int co1, .int cf2, .int cg1, .int cb1, .int cn1, .int cn2, .int cr1, .int cr2]))] := hD
        refine lv_if_eq (tgt := 179) hx hb d_Code_isShaped_172 (by decide) (fun c_22 => ?_) (fun c_22 => ?_)
        · refine lv_iconst (v := 0) hx hb d_Code_isShaped_179 (by decide) ?_
          exact fg_retz () hx hb hr hlocks rfl ⟨(by unfold fx_Code_isShaped_r; (repeat rw [if_neg gn_2]); (repeat rw [if_neg gn_9]); (repeat rw [if_neg gn_11]); (repeat rw [if_neg gn_13]); (repeat rw [if_neg gn_15]); (repeat rw [if_pos gn_17]); (repeat rw [if_pos c_18]); (repeat rw [if_neg c_20]); (repeat rw [if_pos c_22]); first | done | rfl | contradiction), (Or.inr rfl)⟩ (hP.sub (ws' := [(h0, .inr (2, [.ref hs, .ref hi, .ref hm, .int (nI n), .int cf1, .int o, .int ct1, .int ct2, .int co1, .int cf2, .int cg1, .int cb1, .int cn1, .int cn2, .int cr1, .int cr2])), (hs, .inl (cs, 2000, .inr (.inl f)))]) [1, 0] rfl) (hK.sub (tys' := []) [] rfl) (hD.sub (ws' := [(h0, .inr (2, [.ref hs, .ref hi, .ref hm, .int (nI n), .int cf1, .int o, .int ct1, .int ct2, .int co1, .int cf2, .int cg1, .int cb1, .int cn1, .int cn2, .int cr1, .int cr2])), (hs, .inl (cs, 2000, .inr (.inl f)))]) [1, 0] (by decide) rfl) hS (Nat.le_of_ble_eq_true rfl) (Nat.le_of_ble_eq_true rfl) d_Code_isShaped_180
        · refine lv_iconst (v := 1) hx hb d_Code_isShaped_175 (by decide) ?_
          refine lv_goto (tgt := 180) hx hb d_Code_isShaped_176 (by decide) ?_
          exact fg_retz () hx hb hr hlocks rfl ⟨(by unfold fx_Code_isShaped_r; (repeat rw [if_neg gn_2]); (repeat rw [if_neg gn_9]); (repeat rw [if_neg gn_11]); (repeat rw [if_neg gn_13]); (repeat rw [if_neg gn_15]); (repeat rw [if_pos gn_17]); (repeat rw [if_pos c_18]); (repeat rw [if_neg c_20]); (repeat rw [if_neg c_22]); first | done | rfl | contradiction), (Or.inl rfl)⟩ (hP.sub (ws' := [(h0, .inr (2, [.ref hs, .ref hi, .ref hm, .int (nI n), .int cf1, .int o, .int ct1, .int ct2, .int co1, .int cf2, .int cg1, .int cb1, .int cn1, .int cn2, .int cr1, .int cr2])), (hs, .inl (cs, 2000, .inr (.inl f)))]) [1, 0] rfl) (hK.sub (tys' := []) [] rfl) (hD.sub (ws' := [(h0, .inr (2, [.ref hs, .ref hi, .ref hm, .int (nI n), .int cf1, .int o, .int ct1, .int ct2, .int co1, .int cf2, .int cg1, .int cb1, .int cn1, .int cn2, .int cr1, .int cr2])), (hs, .inl (cs, 2000, .inr (.inl f)))]) [1, 0] (by decide) rfl) hS (Nat.le_of_ble_eq_true rfl) (Nat.le_of_ble_eq_true rfl) d_Code_isShaped_180
  have gn_17 : ¬ cg1 = 6 := fun z => n_17 (ey_1.trans z)
  by_cases n_23 : y_1 = 7
  · have gn_23 : cg1 = 7 := ey_1.symm.trans n_23
    subst n_23
    refine lv_tableIn (off := 182) (tgt := 186) hx hb d_Code_isShaped_4 (by decide) (by decide) (by decide) (by decide) ?_
    refine lv_aload_n hx hb d_Code_isShaped_186 rfl (lv_at hl 0 rfl) ?_
    refine va_get (D := D) (ci := 2) (v := .int cf2) (C := "FilterGuard$Code") (T := F_Code) (N := 16) hx hb hts i_Code hown hK hP 0 rfl rfl 9 (by decide) (hts _ u_247) (fun _ h9 => h9) rfl d_Code_isShaped_187 ?_
    refine lv_if_ne (tgt := 211) hx hb d_Code_isShaped_190 (by decide) (fun c_24 => ?_) (fun c_24 => ?_)
    · refine lv_iconst (v := 0) hx hb d_Code_isShaped_211 (by decide) ?_
      exact fg_retz () hx hb hr hlocks rfl ⟨(by unfold fx_Code_isShaped_r; (repeat rw [if_neg gn_2]); (repeat rw [if_neg gn_9]); (repeat rw [if_neg gn_11]); (repeat rw [if_neg gn_13]); (repeat rw [if_neg gn_15]); (repeat rw [if_neg gn_17]); (repeat rw [if_pos gn_23]); (repeat rw [if_neg c_24]); first | done | rfl | contradiction), (Or.inr rfl)⟩ (hP.sub (ws' := [(h0, .inr (2, [.ref hs, .ref hi, .ref hm, .int (nI n), .int cf1, .int o, .int ct1, .int ct2, .int co1, .int cf2, .int cg1, .int cb1, .int cn1, .int cn2, .int cr1, .int cr2])), (hs, .inl (cs, 2000, .inr (.inl f)))]) [0, 1] rfl) (hK.sub (tys' := []) [] rfl) (hD.sub (ws' := [(h0, .inr (2, [.ref hs, .ref hi, .ref hm, .int (nI n), .int cf1, .int o, .int ct1, .int ct2, .int co1, .int cf2, .int cg1, .int cb1, .int cn1, .int cn2, .int cr1, .int cr2])), (hs, .inl (cs, 2000, .inr (.inl f)))]) [0, 1] (by decide) rfl) hS (Nat.le_of_ble_eq_true rfl) (Nat.le_of_ble_eq_true rfl) d_Code_isShaped_212
    · refine lv_aload_n hx hb d_Code_isShaped_193 rfl (lv_at hl 0 rfl) ?_
      refine va_get (D := D) (ci := 2) (v := .int ct1) (C := "FilterGuard$Code") (T := F_Code) (N := 16) hx hb hts i_Code hown hK hP 0 rfl rfl 6 (by decide) (hts _ u_233) (fun _ h9 => h9) rfl d_Code_isShaped_194 ?_
      refine lv_if_ne (tgt := 211) hx hb d_Code_isShaped_197 (by decide) (fun c_25 => ?_) (fun c_25 => ?_)
      · refine lv_iconst (v := 0) hx hb d_Code_isShaped_211 (by decide) ?_
        exact fg_retz () hx hb hr hlocks rfl ⟨(by unfold fx_Code_isShaped_r; (repeat rw [if_neg gn_2]); (repeat rw [if_neg gn_9]); (repeat rw [if_neg gn_11]); (repeat rw [if_neg gn_13]); (repeat rw [if_neg gn_15]); (repeat rw [if_neg gn_17]); (repeat rw [if_pos gn_23]); (repeat rw [if_pos c_24]); (repeat rw [if_neg c_25]); first | done | rfl | contradiction), (Or.inr rfl)⟩ (hP.sub (ws' := [(h0, .inr (2, [.ref hs, .ref hi, .ref hm, .int (nI n), .int cf1, .int o, .int ct1, .int ct2, .int co1, .int cf2, .int cg1, .int cb1, .int cn1, .int cn2, .int cr1, .int cr2])), (hs, .inl (cs, 2000, .inr (.inl f)))]) [0, 1] rfl) (hK.sub (tys' := []) [] rfl) (hD.sub (ws' := [(h0, .inr (2, [.ref hs, .ref hi, .ref hm, .int (nI n), .int cf1, .int o, .int ct1, .int ct2, .int co1, .int cf2, .int cg1, .int cb1, .int cn1, .int cn2, .int cr1, .int cr2])), (hs, .inl (cs, 2000, .inr (.inl f)))]) [0, 1] (by decide) rfl) hS (Nat.le_of_ble_eq_true rfl) (Nat.le_of_ble_eq_true rfl) d_Code_isShaped_212
      · refine lv_aload_n hx hb d_Code_isShaped_200 rfl (lv_at hl 0 rfl) ?_
        refine va_get (D := D) (ci := 2) (v := .int ct2) (C := "FilterGuard$Code") (T := F_Code) (N := 16) hx hb hts i_Code hown hK hP 0 rfl rfl 7 (by decide) (hts _ u_238) (fun _ h9 => h9) rfl d_Code_isShaped_201 ?_
        refine lv_if_ne (tgt := 211) hx hb d_Code_isShaped_204 (by decide) (fun c_26 => ?_) (fun c_26 => ?_)
        · refine lv_iconst (v := 0) hx hb d_Code_isShaped_211 (by decide) ?_
          exact fg_retz () hx hb hr hlocks rfl ⟨(by unfold fx_Code_isShaped_r; (repeat rw [if_neg gn_2]); (repeat rw [if_neg gn_9]); (repeat rw [if_neg gn_11]); (repeat rw [if_neg gn_13]); (repeat rw [if_neg gn_15]); (repeat rw [if_neg gn_17]); (repeat rw [if_pos gn_23]); (repeat rw [if_pos c_24]); (repeat rw [if_pos c_25]); (repeat rw [if_neg c_26]); first | done | rfl | contradiction), (Or.inr rfl)⟩ (hP.sub (ws' := [(h0, .inr (2, [.ref hs, .ref hi, .ref hm, .int (nI n), .int cf1, .int o, .int ct1, .int ct2, .int co1, .int cf2, .int cg1, .int cb1, .int cn1, .int cn2, .int cr1, .int cr2])), (hs, .inl (cs, 2000, .inr (.inl f)))]) [0, 1] rfl) (hK.sub (tys' := []) [] rfl) (hD.sub (ws' := [(h0, .inr (2, [.ref hs, .ref hi, .ref hm, .int (nI n), .int cf1, .int o, .int ct1, .int ct2, .int co1, .int cf2, .int cg1, .int cb1, .int cn1, .int cn2, .int cr1, .int cr2])), (hs, .inl (cs, 2000, .inr (.inl f)))]) [0, 1] (by decide) rfl) hS (Nat.le_of_ble_eq_true rfl) (Nat.le_of_ble_eq_true rfl) d_Code_isShaped_212
        · refine lv_iconst (v := 1) hx hb d_Code_isShaped_207 (by decide) ?_
          refine lv_goto (tgt := 212) hx hb d_Code_isShaped_208 (by decide) ?_
          exact fg_retz () hx hb hr hlocks rfl ⟨(by unfold fx_Code_isShaped_r; (repeat rw [if_neg gn_2]); (repeat rw [if_neg gn_9]); (repeat rw [if_neg gn_11]); (repeat rw [if_neg gn_13]); (repeat rw [if_neg gn_15]); (repeat rw [if_neg gn_17]); (repeat rw [if_pos gn_23]); (repeat rw [if_pos c_24]); (repeat rw [if_pos c_25]); (repeat rw [if_pos c_26]); first | done | rfl | contradiction), (Or.inl rfl)⟩ (hP.sub (ws' := [(h0, .inr (2, [.ref hs, .ref hi, .ref hm, .int (nI n), .int cf1, .int o, .int ct1, .int ct2, .int co1, .int cf2, .int cg1, .int cb1, .int cn1, .int cn2, .int cr1, .int cr2])), (hs, .inl (cs, 2000, .inr (.inl f)))]) [0, 1] rfl) (hK.sub (tys' := []) [] rfl) (hD.sub (ws' := [(h0, .inr (2, [.ref hs, .ref hi, .ref hm, .int (nI n), .int cf1, .int o, .int ct1, .int ct2, .int co1, .int cf2, .int cg1, .int cb1, .int cn1, .int cn2, .int cr1, .int cr2])), (hs, .inl (cs, 2000, .inr (.inl f)))]) [0, 1] (by decide) rfl) hS (Nat.le_of_ble_eq_true rfl) (Nat.le_of_ble_eq_true rfl) d_Code_isShaped_212
  have gn_23 : ¬ cg1 = 7 := fun z => n_23 (ey_1.trans z)
  by_cases n_27 : y_1 = 8
  · have gn_27 : cg1 = 8 := ey_1.symm.trans n_27
    subst n_27
    refine lv_tableIn (off := 177) (tgt := 181) hx hb d_Code_isShaped_4 (by decide) (by decide) (by decide) (by decide) ?_
    refine lv_aload_n hx hb d_Code_isShaped_181 rfl (lv_at hl 0 rfl) ?_
    refine fg_theni (wr := [(hs, .inl (cs, 2000, .inr (.inl f)))]) (fg_runV (C := "FilterGuard$Code") (As := []) (rest := []) (ci := 2) (q0 := 0) ⟨hx, hb, hml, hown, hts⟩ (c_Code_isOneOperand l D h0 hs hi hm n cf1 o ct1 ct2 co1 cf2 cg1 cb1 cn1 cn2 cr1 cr2 s.heap.size) rfl (by show fg_nm y_Code_isOneOperand 0; decide +kernel) u_988 u_990 u_8 u_182 u_991 ⟨Nat.le_of_ble_eq_true rfl, Nat.le_of_ble_eq_true rfl⟩ hX (hP.sub (ws' := [(h0, .inr (2, [.ref hs, .ref hi, .ref hm, .int (nI n), .int cf1, .int o, .int ct1, .int ct2, .int co1, .int cf2, .int cg1, .int cb1, .int cn1, .int cn2, .int cr1, .int cr2]))]) [0] rfl) (hK.sub (tys' := []) [] rfl) (hD.sub (ws' := [(h0, .inr (2, [.ref hs, .ref hi, .ref hm, .int (nI n), .int cf1, .int o, .int ct1, .int ct2, .int co1, .int cf2, .int cg1, .int cb1, .int cn1, .int cn2, .int cr1, .int cr2]))]) [0] (by decide) rfl) rfl rfl rfl rfl hl.1 (Nat.le_of_ble_eq_true rfl) d_Code_isShaped_182 ⟨(Nat.le_of_ble_eq_true rfl), (Nat.le_of_ble_eq_true rfl)⟩) hP hD hK hS hA [0] [1] rfl rfl (by decide) (by decide) (fun r182_28 u H locs hw182_27 hP hD hK hS => ?_)
    try dsimp only at hw182_27
    have hP : va_P D classes [(hs, .inl (cs, 2000, .inr (.inl f))), (h0, .inr (2, [.ref hs, .ref hi, .ref hm, .int (nI n), .int cf1, .int o, .int ct1, .int ct2, .int co1, .int cf2, .int cg1, .int cb1, .int cn1, .int cn2, .int cr1, .int cr2]))] H := hP
    have hD : va_D A [(hs, .inl (cs, 2000, .inr (.inl f))), (h0, .inr (2, [.ref hs, .ref hi, .ref hm, .int (nI n), .int cf1, .int o, .int ct1, .int ct2, .int co1, .int cf2, .int cg1, .int cb1, .int cn1, .int cn2, .int cr1, .int cr2]))] := hD
    have hK : va_K D classes [(cs, .long)] s := hK
    refine W.widen (k := 0) (n := 0) (Nat.le_of_ble_eq_true rfl) (Nat.le_of_ble_eq_true rfl) ?_
    obtain ⟨hw182_27_0, hw182_27_1⟩ := hw182_27
    subst hw182_27_0
    have hP : va_P D classes [(hs, .inl (cs, 2000, .inr (.inl f))), (h0, .inr (2, [.ref hs, .ref hi, .ref hm, .int (nI n), .int cf1, .int o, .int ct1, .int ct2, .int co1, .int cf2, .int cg1, .int cb1, .int cn1, .int cn2, .int cr1, .int cr2]))] H := hP
    have hD : va_D A [(hs, .inl (cs, 2000, .inr (.inl f))), (h0, .inr (2, [.ref hs, .ref hi, .ref hm, .int (nI n), .int cf1, .int o, .int ct1, .int ct2, .int co1, .int cf2, .int cg1, .int cb1, .int cn1, .int cn2, .int cr1, .int cr2]))] := hD
    exact fg_retz () hx hb hr hlocks (fg_nz01 hw182_27_1) ⟨(by unfold fx_Code_isShaped_r; (repeat rw [if_neg gn_2]); (repeat rw [if_neg gn_9]); (repeat rw [if_neg gn_11]); (repeat rw [if_neg gn_13]); (repeat rw [if_neg gn_15]); (repeat rw [if_neg gn_17]); (repeat rw [if_neg gn_23]); (repeat rw [if_pos gn_27]); first | done | rfl | contradiction), hw182_27_1⟩ (hP.sub (ws' := [(h0, .inr (2, [.ref hs, .ref hi, .ref hm, .int (nI n), .int cf1, .int o, .int ct1, .int ct2, .int co1, .int cf2, .int cg1, .int cb1, .int cn1, .int cn2, .int cr1, .int cr2])), (hs, .inl (cs, 2000, .inr (.inl f)))]) [1, 0] rfl) (hK.sub (tys' := []) [] rfl) (hD.sub (ws' := [(h0, .inr (2, [.ref hs, .ref hi, .ref hm, .int (nI n), .int cf1, .int o, .int ct1, .int ct2, .int co1, .int cf2, .int cg1, .int cb1, .int cn1, .int cn2, .int cr1, .int cr2])), (hs, .inl (cs, 2000, .inr (.inl f)))]) [1, 0] (by decide) rfl) hS (Nat.le_of_ble_eq_true rfl) (Nat.le_of_ble_eq_true rfl) d_Code_isShaped_185
  have gn_27 : ¬ cg1 = 8 := fun z => n_27 (ey_1.trans z)
  by_cases n_29 : y_1 = 9
  · have gn_29 : cg1 = 9 := ey_1.symm.trans n_29
    subst n_29
    refine lv_tableIn (off := 209) (tgt := 213) hx hb d_Code_isShaped_4 (by decide) (by decide) (by decide) (by decide) ?_
    refine lv_aload_n hx hb d_Code_isShaped_213 rfl (lv_at hl 0 rfl) ?_
    refine va_get (D := D) (ci := 2) (v := .int co1) (C := "FilterGuard$Code") (T := F_Code) (N := 16) hx hb hts i_Code hown hK hP 0 rfl rfl 8 (by decide) (hts _ u_242) (fun _ h9 => h9) rfl d_Code_isShaped_214 ?_
    refine lv_if_ne (tgt := 238) hx hb d_Code_isShaped_217 (by decide) (fun c_30 => ?_) (fun c_30 => ?_)
    · refine lv_iconst (v := 0) hx hb d_Code_isShaped_238 (by decide) ?_
      exact fg_retz () hx hb hr hlocks rfl ⟨(by unfold fx_Code_isShaped_r; (repeat rw [if_neg gn_2]); (repeat rw [if_neg gn_9]); (repeat rw [if_neg gn_11]); (repeat rw [if_neg gn_13]); (repeat rw [if_neg gn_15]); (repeat rw [if_neg gn_17]); (repeat rw [if_neg gn_23]); (repeat rw [if_neg gn_27]); (repeat rw [if_pos gn_29]); (repeat rw [if_neg c_30]); first | done | rfl | contradiction), (Or.inr rfl)⟩ (hP.sub (ws' := [(h0, .inr (2, [.ref hs, .ref hi, .ref hm, .int (nI n), .int cf1, .int o, .int ct1, .int ct2, .int co1, .int cf2, .int cg1, .int cb1, .int cn1, .int cn2, .int cr1, .int cr2])), (hs, .inl (cs, 2000, .inr (.inl f)))]) [0, 1] rfl) (hK.sub (tys' := []) [] rfl) (hD.sub (ws' := [(h0, .inr (2, [.ref hs, .ref hi, .ref hm, .int (nI n), .int cf1, .int o, .int ct1, .int ct2, .int co1, .int cf2, .int cg1, .int cb1, .int cn1, .int cn2, .int cr1, .int cr2])), (hs, .inl (cs, 2000, .inr (.inl f)))]) [0, 1] (by decide) rfl) hS (Nat.le_of_ble_eq_true rfl) (Nat.le_of_ble_eq_true rfl) d_Code_isShaped_239
    · refine lv_aload_n hx hb d_Code_isShaped_220 rfl (lv_at hl 0 rfl) ?_
      refine va_get (D := D) (ci := 2) (v := .int ct1) (C := "FilterGuard$Code") (T := F_Code) (N := 16) hx hb hts i_Code hown hK hP 0 rfl rfl 6 (by decide) (hts _ u_233) (fun _ h9 => h9) rfl d_Code_isShaped_221 ?_
      refine lv_if_ne (tgt := 238) hx hb d_Code_isShaped_224 (by decide) (fun c_31 => ?_) (fun c_31 => ?_)
      · refine lv_iconst (v := 0) hx hb d_Code_isShaped_238 (by decide) ?_
        exact fg_retz () hx hb hr hlocks rfl ⟨(by unfold fx_Code_isShaped_r; (repeat rw [if_neg gn_2]); (repeat rw [if_neg gn_9]); (repeat rw [if_neg gn_11]); (repeat rw [if_neg gn_13]); (repeat rw [if_neg gn_15]); (repeat rw [if_neg gn_17]); (repeat rw [if_neg gn_23]); (repeat rw [if_neg gn_27]); (repeat rw [if_pos gn_29]); (repeat rw [if_pos c_30]); (repeat rw [if_neg c_31]); first | done | rfl | contradiction), (Or.inr rfl)⟩ (hP.sub (ws' := [(h0, .inr (2, [.ref hs, .ref hi, .ref hm, .int (nI n), .int cf1, .int o, .int ct1, .int ct2, .int co1, .int cf2, .int cg1, .int cb1, .int cn1, .int cn2, .int cr1, .int cr2])), (hs, .inl (cs, 2000, .inr (.inl f)))]) [0, 1] rfl) (hK.sub (tys' := []) [] rfl) (hD.sub (ws' := [(h0, .inr (2, [.ref hs, .ref hi, .ref hm, .int (nI n), .int cf1, .int o, .int ct1, .int ct2, .int co1, .int cf2, .int cg1, .int cb1, .int cn1, .int cn2, .int cr1, .int cr2])), (hs, .inl (cs, 2000, .inr (.inl f)))]) [0, 1] (by decide) rfl) hS (Nat.le_of_ble_eq_true rfl) (Nat.le_of_ble_eq_true rfl) d_Code_isShaped_239
      · refine lv_aload_n hx hb d_Code_isShaped_227 rfl (lv_at hl 0 rfl) ?_
        refine va_get (D := D) (ci := 2) (v := .int ct2) (C := "FilterGuard$Code") (T := F_Code) (N := 16) hx hb hts i_Code hown hK hP 0 rfl rfl 7 (by decide) (hts _ u_238) (fun _ h9 => h9) rfl d_Code_isShaped_228 ?_
        refine lv_if_ne (tgt := 238) hx hb d_Code_isShaped_231 (by decide) (fun c_32 => ?_) (fun c_32 => ?_)
        · refine lv_iconst (v := 0) hx hb d_Code_isShaped_238 (by decide) ?_
          exact fg_retz () hx hb hr hlocks rfl ⟨(by unfold fx_Code_isShaped_r; (repeat rw [if_neg gn_2]); (repeat rw [if_neg gn_9]); (repeat rw [if_neg gn_11]); (repeat rw [if_neg gn_13]); (repeat rw [if_neg gn_15]); (repeat rw [if_neg gn_17]); (repeat rw [if_neg gn_23]); (repeat rw [if_neg gn_27]); (repeat rw [if_pos gn_29]); (repeat rw [if_pos c_30]); (repeat rw [if_pos c_31]); (repeat rw [if_neg c_32]); first | done | rfl | contradiction), (Or.inr rfl)⟩ (hP.sub (ws' := [(h0, .inr (2, [.ref hs, .ref hi, .ref hm, .int (nI n), .int cf1, .int o, .int ct1, .int ct2, .int co1, .int cf2, .int cg1, .int cb1, .int cn1, .int cn2, .int cr1, .int cr2])), (hs, .inl (cs, 2000, .inr (.inl f)))]) [0, 1] rfl) (hK.sub (tys' := []) [] rfl) (hD.sub (ws' := [(h0, .inr (2, [.ref hs, .ref hi, .ref hm, .int (nI n), .int cf1, .int o, .int ct1, .int ct2, .int co1, .int cf2, .int cg1, .int cb1, .int cn1, .int cn2, .int cr1, .int cr2])), (hs, .inl (cs, 2000, .inr (.inl f)))]) [0, 1] (by decide) rfl) hS (Nat.le_of_ble_eq_true rfl) (Nat.le_of_ble_eq_true rfl) d_Code_isShaped_239
        · refine lv_iconst (v := 1) hx hb d_Code_isShaped_234 (by decide) ?_
          refine lv_goto (tgt := 239) hx hb d_Code_isShaped_235 (by decide) ?_
          exact fg_retz () hx hb hr hlocks rfl ⟨(by unfold fx_Code_isShaped_r; (repeat rw [if_neg gn_2]); (repeat rw [if_neg gn_9]); (repeat rw [if_neg gn_11]); (repeat rw [if_neg gn_13]); (repeat rw [if_neg gn_15]); (repeat rw [if_neg gn_17]); (repeat rw [if_neg gn_23]); (repeat rw [if_neg gn_27]); (repeat rw [if_pos gn_29]); (repeat rw [if_pos c_30]); (repeat rw [if_pos c_31]); (repeat rw [if_pos c_32]); first | done | rfl | contradiction), (Or.inl rfl)⟩ (hP.sub (ws' := [(h0, .inr (2, [.ref hs, .ref hi, .ref hm, .int (nI n), .int cf1, .int o, .int ct1, .int ct2, .int co1, .int cf2, .int cg1, .int cb1, .int cn1, .int cn2, .int cr1, .int cr2])), (hs, .inl (cs, 2000, .inr (.inl f)))]) [0, 1] rfl) (hK.sub (tys' := []) [] rfl) (hD.sub (ws' := [(h0, .inr (2, [.ref hs, .ref hi, .ref hm, .int (nI n), .int cf1, .int o, .int ct1, .int ct2, .int co1, .int cf2, .int cg1, .int cb1, .int cn1, .int cn2, .int cr1, .int cr2])), (hs, .inl (cs, 2000, .inr (.inl f)))]) [0, 1] (by decide) rfl) hS (Nat.le_of_ble_eq_true rfl) (Nat.le_of_ble_eq_true rfl) d_Code_isShaped_239
  have gn_29 : ¬ cg1 = 9 := fun z => n_29 (ey_1.trans z)
  by_cases n_33 : y_1 = 10
  · have gn_33 : cg1 = 10 := ey_1.symm.trans n_33
    subst n_33
    refine lv_tableIn (off := 236) (tgt := 240) hx hb d_Code_isShaped_4 (by decide) (by decide) (by decide) (by decide) ?_
    refine lv_aload_n hx hb d_Code_isShaped_240 rfl (lv_at hl 0 rfl) ?_
    refine va_get (D := D) (ci := 2) (v := .int cf2) (C := "FilterGuard$Code") (T := F_Code) (N := 16) hx hb hts i_Code hown hK hP 0 rfl rfl 9 (by decide) (hts _ u_247) (fun _ h9 => h9) rfl d_Code_isShaped_241 ?_
    refine lv_if_ne (tgt := 272) hx hb d_Code_isShaped_244 (by decide) (fun c_34 => ?_) (fun c_34 => ?_)
    · refine lv_iconst (v := 0) hx hb d_Code_isShaped_272 (by decide) ?_
      exact fg_retz () hx hb hr hlocks rfl ⟨(by unfold fx_Code_isShaped_r; (repeat rw [if_neg gn_2]); (repeat rw [if_neg gn_9]); (repeat rw [if_neg gn_11]); (repeat rw [if_neg gn_13]); (repeat rw [if_neg gn_15]); (repeat rw [if_neg gn_17]); (repeat rw [if_neg gn_23]); (repeat rw [if_neg gn_27]); (repeat rw [if_neg gn_29]); (repeat rw [if_pos gn_33]); (repeat rw [if_neg c_34]); first | done | rfl | contradiction), (Or.inr rfl)⟩ (hP.sub (ws' := [(h0, .inr (2, [.ref hs, .ref hi, .ref hm, .int (nI n), .int cf1, .int o, .int ct1, .int ct2, .int co1, .int cf2, .int cg1, .int cb1, .int cn1, .int cn2, .int cr1, .int cr2])), (hs, .inl (cs, 2000, .inr (.inl f)))]) [0, 1] rfl) (hK.sub (tys' := []) [] rfl) (hD.sub (ws' := [(h0, .inr (2, [.ref hs, .ref hi, .ref hm, .int (nI n), .int cf1, .int o, .int ct1, .int ct2, .int co1, .int cf2, .int cg1, .int cb1, .int cn1, .int cn2, .int cr1, .int cr2])), (hs, .inl (cs, 2000, .inr (.inl f)))]) [0, 1] (by decide) rfl) hS (Nat.le_of_ble_eq_true rfl) (Nat.le_of_ble_eq_true rfl) d_Code_isShaped_273
    · refine lv_aload_n hx hb d_Code_isShaped_247 rfl (lv_at hl 0 rfl) ?_
      refine va_get (D := D) (ci := 2) (v := .int co1) (C := "FilterGuard$Code") (T := F_Code) (N := 16) hx hb hts i_Code hown hK hP 0 rfl rfl 8 (by decide) (hts _ u_242) (fun _ h9 => h9) rfl d_Code_isShaped_248 ?_
      refine lv_if_ne (tgt := 272) hx hb d_Code_isShaped_251 (by decide) (fun c_35 => ?_) (fun c_35 => ?_)
      · refine lv_iconst (v := 0) hx hb d_Code_isShaped_272 (by decide) ?_
        exact fg_retz () hx hb hr hlocks rfl ⟨(by unfold fx_Code_isShaped_r; (repeat rw [if_neg gn_2]); (repeat rw [if_neg gn_9]); (repeat rw [if_neg gn_11]); (repeat rw [if_neg gn_13]); (repeat rw [if_neg gn_15]); (repeat rw [if_neg gn_17]); (repeat rw [if_neg gn_23]); (repeat rw [if_neg gn_27]); (repeat rw [if_neg gn_29]); (repeat rw [if_pos gn_33]); (repeat rw [if_pos c_34]); (repeat rw [if_neg c_35]); first | done | rfl | contradiction), (Or.inr rfl)⟩ (hP.sub (ws' := [(h0, .inr (2, [.ref hs, .ref hi, .ref hm, .int (nI n), .int cf1, .int o, .int ct1, .int ct2, .int co1, .int cf2, .int cg1, .int cb1, .int cn1, .int cn2, .int cr1, .int cr2])), (hs, .inl (cs, 2000, .inr (.inl f)))]) [0, 1] rfl) (hK.sub (tys' := []) [] rfl) (hD.sub (ws' := [(h0, .inr (2, [.ref hs, .ref hi, .ref hm, .int (nI n), .int cf1, .int o, .int ct1, .int ct2, .int co1, .int cf2, .int cg1, .int cb1, .int cn1, .int cn2, .int cr1, .int cr2])), (hs, .inl (cs, 2000, .inr (.inl f)))]) [0, 1] (by decide) rfl) hS (Nat.le_of_ble_eq_true rfl) (Nat.le_of_ble_eq_true rfl) d_Code_isShaped_273
      · refine lv_aload_n hx hb d_Code_isShaped_254 rfl (lv_at hl 0 rfl) ?_
        refine va_get (D := D) (ci := 2) (v := .int ct1) (C := "FilterGuard$Code") (T := F_Code) (N := 16) hx hb hts i_Code hown hK hP 0 rfl rfl 6 (by decide) (hts _ u_233) (fun _ h9 => h9) rfl d_Code_isShaped_255 ?_
        refine lv_if_ne (tgt := 272) hx hb d_Code_isShaped_258 (by decide) (fun c_36 => ?_) (fun c_36 => ?_)
        · refine lv_iconst (v := 0) hx hb d_Code_isShaped_272 (by decide) ?_
          exact fg_retz () hx hb hr hlocks rfl ⟨(by unfold fx_Code_isShaped_r; (repeat rw [if_neg gn_2]); (repeat rw [if_neg gn_9]); (repeat rw [if_neg gn_11]); (repeat rw [if_neg gn_13]); (repeat rw [if_neg gn_15]); (repeat rw [if_neg gn_17]); (repeat rw [if_neg gn_23]); (repeat rw [if_neg gn_27]); (repeat rw [if_neg gn_29]); (repeat rw [if_pos gn_33]); (repeat rw [if_pos c_34]); (repeat rw [if_pos c_35]); (repeat rw [if_neg c_36]); first | done | rfl | contradiction), (Or.inr rfl)⟩ (hP.sub (ws' := [(h0, .inr (2, [.ref hs, .ref hi, .ref hm, .int (nI n), .int cf1, .int o, .int ct1, .int ct2, .int co1, .int cf2, .int cg1, .int cb1, .int cn1, .int cn2, .int cr1, .int cr2])), (hs, .inl (cs, 2000, .inr (.inl f)))]) [0, 1] rfl) (hK.sub (tys' := []) [] rfl) (hD.sub (ws' := [(h0, .inr (2, [.ref hs, .ref hi, .ref hm, .int (nI n), .int cf1, .int o, .int ct1, .int ct2, .int co1, .int cf2, .int cg1, .int cb1, .int cn1, .int cn2, .int cr1, .int cr2])), (hs, .inl (cs, 2000, .inr (.inl f)))]) [0, 1] (by decide) rfl) hS (Nat.le_of_ble_eq_true rfl) (Nat.le_of_ble_eq_true rfl) d_Code_isShaped_273
        · refine lv_aload_n hx hb d_Code_isShaped_261 rfl (lv_at hl 0 rfl) ?_
          refine va_get (D := D) (ci := 2) (v := .int ct2) (C := "FilterGuard$Code") (T := F_Code) (N := 16) hx hb hts i_Code hown hK hP 0 rfl rfl 7 (by decide) (hts _ u_238) (fun _ h9 => h9) rfl d_Code_isShaped_262 ?_
          refine lv_if_ne (tgt := 272) hx hb d_Code_isShaped_265 (by decide) (fun c_37 => ?_) (fun c_37 => ?_)
          · refine lv_iconst (v := 0) hx hb d_Code_isShaped_272 (by decide) ?_
            exact fg_retz () hx hb hr hlocks rfl ⟨(by unfold fx_Code_isShaped_r; (repeat rw [if_neg gn_2]); (repeat rw [if_neg gn_9]); (repeat rw [if_neg gn_11]); (repeat rw [if_neg gn_13]); (repeat rw [if_neg gn_15]); (repeat rw [if_neg gn_17]); (repeat rw [if_neg gn_23]); (repeat rw [if_neg gn_27]); (repeat rw [if_neg gn_29]); (repeat rw [if_pos gn_33]); (repeat rw [if_pos c_34]); (repeat rw [if_pos c_35]); (repeat rw [if_pos c_36]); (repeat rw [if_neg c_37]); first | done | rfl | contradiction), (Or.inr rfl)⟩ (hP.sub (ws' := [(h0, .inr (2, [.ref hs, .ref hi, .ref hm, .int (nI n), .int cf1, .int o, .int ct1, .int ct2, .int co1, .int cf2, .int cg1, .int cb1, .int cn1, .int cn2, .int cr1, .int cr2])), (hs, .inl (cs, 2000, .inr (.inl f)))]) [0, 1] rfl) (hK.sub (tys' := []) [] rfl) (hD.sub (ws' := [(h0, .inr (2, [.ref hs, .ref hi, .ref hm, .int (nI n), .int cf1, .int o, .int ct1, .int ct2, .int co1, .int cf2, .int cg1, .int cb1, .int cn1, .int cn2, .int cr1, .int cr2])), (hs, .inl (cs, 2000, .inr (.inl f)))]) [0, 1] (by decide) rfl) hS (Nat.le_of_ble_eq_true rfl) (Nat.le_of_ble_eq_true rfl) d_Code_isShaped_273
          · refine lv_iconst (v := 1) hx hb d_Code_isShaped_268 (by decide) ?_
            refine lv_goto (tgt := 273) hx hb d_Code_isShaped_269 (by decide) ?_
            exact fg_retz () hx hb hr hlocks rfl ⟨(by unfold fx_Code_isShaped_r; (repeat rw [if_neg gn_2]); (repeat rw [if_neg gn_9]); (repeat rw [if_neg gn_11]); (repeat rw [if_neg gn_13]); (repeat rw [if_neg gn_15]); (repeat rw [if_neg gn_17]); (repeat rw [if_neg gn_23]); (repeat rw [if_neg gn_27]); (repeat rw [if_neg gn_29]); (repeat rw [if_pos gn_33]); (repeat rw [if_pos c_34]); (repeat rw [if_pos c_35]); (repeat rw [if_pos c_36]); (repeat rw [if_pos c_37]); first | done | rfl | contradiction), (Or.inl rfl)⟩ (hP.sub (ws' := [(h0, .inr (2, [.ref hs, .ref hi, .ref hm, .int (nI n), .int cf1, .int o, .int ct1, .int ct2, .int co1, .int cf2, .int cg1, .int cb1, .int cn1, .int cn2, .int cr1, .int cr2])), (hs, .inl (cs, 2000, .inr (.inl f)))]) [0, 1] rfl) (hK.sub (tys' := []) [] rfl) (hD.sub (ws' := [(h0, .inr (2, [.ref hs, .ref hi, .ref hm, .int (nI n), .int cf1, .int o, .int ct1, .int ct2, .int co1, .int cf2, .int cg1, .int cb1, .int cn1, .int cn2, .int cr1, .int cr2])), (hs, .inl (cs, 2000, .inr (.inl f)))]) [0, 1] (by decide) rfl) hS (Nat.le_of_ble_eq_true rfl) (Nat.le_of_ble_eq_true rfl) d_Code_isShaped_273
  have gn_33 : ¬ cg1 = 10 := fun z => n_33 (ey_1.trans z)
  have in_2 := lv_neT n_2 (show (1 : Int32).toInt = 1 from rfl)
  have in_9 := lv_neT n_9 (show (2 : Int32).toInt = 2 from rfl)
  have in_11 := lv_neT n_11 (show (3 : Int32).toInt = 3 from rfl)
  have in_13 := lv_neT n_13 (show (4 : Int32).toInt = 4 from rfl)
  have in_15 := lv_neT n_15 (show (5 : Int32).toInt = 5 from rfl)
  have in_17 := lv_neT n_17 (show (6 : Int32).toInt = 6 from rfl)
  have in_23 := lv_neT n_23 (show (7 : Int32).toInt = 7 from rfl)
  have in_27 := lv_neT n_27 (show (8 : Int32).toInt = 8 from rfl)
  have in_29 := lv_neT n_29 (show (9 : Int32).toInt = 9 from rfl)
  have in_33 := lv_neT n_33 (show (10 : Int32).toInt = 10 from rfl)
  refine lv_tableOut (tgt := 274) hx hb d_Code_isShaped_4 (by omega) (by decide) ?_
  refine lv_iconst (v := 0) hx hb d_Code_isShaped_274 (by decide) ?_
  exact fg_retz () hx hb hr hlocks rfl ⟨(by unfold fx_Code_isShaped_r; (repeat rw [if_neg gn_2]); (repeat rw [if_neg gn_9]); (repeat rw [if_neg gn_11]); (repeat rw [if_neg gn_13]); (repeat rw [if_neg gn_15]); (repeat rw [if_neg gn_17]); (repeat rw [if_neg gn_23]); (repeat rw [if_neg gn_27]); (repeat rw [if_neg gn_29]); (repeat rw [if_neg gn_33]); first | done | rfl | contradiction), (Or.inr rfl)⟩ (hP.sub (ws' := [(h0, .inr (2, [.ref hs, .ref hi, .ref hm, .int (nI n), .int cf1, .int o, .int ct1, .int ct2, .int co1, .int cf2, .int cg1, .int cb1, .int cn1, .int cn2, .int cr1, .int cr2])), (hs, .inl (cs, 2000, .inr (.inl f)))]) [0, 1] rfl) (hK.sub (tys' := []) [] rfl) (hD.sub (ws' := [(h0, .inr (2, [.ref hs, .ref hi, .ref hm, .int (nI n), .int cf1, .int o, .int ct1, .int ct2, .int co1, .int cf2, .int cg1, .int cb1, .int cn1, .int cn2, .int cr1, .int cr2])), (hs, .inl (cs, 2000, .inr (.inl f)))]) [0, 1] (by decide) rfl) hS (Nat.le_of_ble_eq_true rfl) (Nat.le_of_ble_eq_true rfl) d_Code_isShaped_275
def fx_Code_faultOfSlot_j10 (cg1 : Int32) : Int32 := (if cg1 = 1 then 1 else (if cg1 = 2 then 1 else (if cg1 = 6 then 1 else 0)))
def fx_Code_faultOfSlot_r (n : Nat) (ct1 : Int32) (ct2 : Int32) (co1 : Int32) (cf2 : Int32) (cg1 : Int32) (cn1 : Int32) (cn2 : Int32) (cr2 : Int32) (f : Nat → Int64) (x1 : Int32) (x2 : Int32) : Int32 := (if (fx_Code_isShaped_r n ct1 ct2 co1 cf2 cg1 cn1 cr2 f x1) = 0 then 1 else (if 10 < ct1 then 2 else (if 10 < ct2 then 2 else (if (fx_Code_faultOfSlot_j10 cg1) = 0 then (if cg1 = 6 then (if cr2 = 0 then (if (fx_Code_isWrongField_r cf2 cn1 cn2) = 0 then 0 else 3) else 0) else (if cg1 = 9 then (if cf2 < 1 then 4 else (if cf2 ≤ 6 then 0 else 4)) else (if cg1 = 1 then (if ct2 = 1 then (if cf2 < 0 then 4 else (if cf2 < x2 then 0 else 4)) else 0) else 0))) else (if ct1 = 10 then 2 else (if cg1 = 6 then (if cr2 = 0 then (if (fx_Code_isWrongField_r cf2 cn1 cn2) = 0 then 0 else 3) else 0) else (if cg1 = 9 then (if cf2 < 1 then 4 else (if cf2 ≤ 6 then 0 else 4)) else (if cg1 = 1 then (if ct2 = 1 then (if cf2 < 0 then 4 else (if cf2 < x2 then 0 else 4)) else 0) else 0))))))))
def rm_Code_faultOfSlot : Room := { frames := 3, cells := 0, slots := 0, locals := 120 }
abbrev q_Code_faultOfSlot (D : va_G) (h0 : Nat) (hs : Nat) (hi : Nat) (hm : Nat) (n : Nat) (cf1 : Int32) (o : Int32) (ct1 : Int32) (ct2 : Int32) (co1 : Int32) (cf2 : Int32) (cg1 : Int32) (cb1 : Int32) (cn1 : Int32) (cn2 : Int32) (cr1 : Int32) (cr2 : Int32) (cs : ClassId) (f : Nat → Int64) (x1 : Int32) (x2 : Int32) (A : Nat → Prop) : Array Value → Jvm.State → Outcome → Jvm.State → Prop := va_Qi (fun (r : Int32) (_ : Unit) => r = (fx_Code_faultOfSlot_r n ct1 ct2 co1 cf2 cg1 cn1 cn2 cr2 f x1 x2)) (fg_B D A (fun (_ : Unit) => [(h0, .inr (2, [.ref hs, .ref hi, .ref hm, .int (nI n), .int cf1, .int o, .int ct1, .int ct2, .int co1, .int cf2, .int cg1, .int cb1, .int cn1, .int cn2, .int cr1, .int cr2])), (hs, .inl (cs, 2000, .inr (.inl f)))]) (fun (_ : Unit) => [])) A
set_option maxHeartbeats 4000000 in
set_option maxRecDepth 100000 in
theorem c_Code_faultOfSlot (l : Launch) (D : va_G) (h0 : Nat) (hs : Nat) (hi : Nat) (hm : Nat) (n : Nat) (cf1 : Int32) (o : Int32) (ct1 : Int32) (ct2 : Int32) (co1 : Int32) (cf2 : Int32) (cg1 : Int32) (cb1 : Int32) (cn1 : Int32) (cn2 : Int32) (cr1 : Int32) (cr2 : Int32) (cs : ClassId) (f : Nat → Int64) (x1 : Int32) (x2 : Int32) (sz : Nat) (hn : n ≤ 2000) (hx1 : ¬ x1 + 1 < 0) : Met l y_Code_faultOfSlot (fg_w y_Code_faultOfSlot prog_4_method_16_code 4 (some .int)) rm_Code_faultOfSlot (va_Pc [.ref h0, .int x1, .int x2] (fg_P D [(cs, .long)] [(h0, .inr (2, [.ref hs, .ref hi, .ref hm, .int (nI n), .int cf1, .int o, .int ct1, .int ct2, .int co1, .int cf2, .int cg1, .int cb1, .int cn1, .int cn2, .int cr1, .int cr2])), (hs, .inl (cs, 2000, .inr (.inl f)))] sz)) (q_Code_faultOfSlot D h0 hs hi hm n cf1 o ct1 ct2 co1 cf2 cg1 cb1 cn1 cn2 cr1 cr2 cs f x1 x2 (va_A [(h0, .inr (2, [.ref hs, .ref hi, .ref hm, .int (nI n), .int cf1, .int o, .int ct1, .int ct2, .int co1, .int cf2, .int cg1, .int cb1, .int cn1, .int cn2, .int cr1, .int cr2])), (hs, .inl (cs, 2000, .inr (.inl f)))] sz)) rm_Code_faultOfSlot.cells rm_Code_faultOfSlot.slots (va_A [(h0, .inr (2, [.ref hs, .ref hi, .ref hm, .int (nI n), .int cf1, .int o, .int ct1, .int ct2, .int co1, .int cf2, .int cg1, .int cb1, .int cn1, .int cn2, .int cr1, .int cr2])), (hs, .inl (cs, 2000, .inr (.inl f)))] sz) := by
  refine fg_enter (fun A => q_Code_faultOfSlot D h0 hs hi hm n cf1 o ct1 ct2 co1 cf2 cg1 cb1 cn1 cn2 cr1 cr2 cs f x1 x2 A) (by decide +kernel) (Nat.le_of_ble_eq_true rfl) ?_
  intro p e s m below meth c ls A hx hb hml hown hts hr hlocks hin hP hK hD hS hA hX hl
  have hl : lv_has ls 4 [(0, .ref h0), (1, .int x1), (2, .int x2)] := hl
  refine lv_aload_n hx hb d_Code_faultOfSlot_0 rfl (lv_at hl 0 rfl) ?_
  refine lv_iload_n hx hb d_Code_faultOfSlot_1 rfl (lv_at hl 1 rfl) ?_
  refine fg_theni (wr := []) (fg_runV (C := "FilterGuard$Code") (As := [.int x1]) (rest := []) (ci := 2) (q0 := 0) ⟨hx, hb, hml, hown, hts⟩ (c_Code_isShaped l D h0 hs hi hm n cf1 o ct1 ct2 co1 cf2 cg1 cb1 cn1 cn2 cr1 cr2 cs f x1 s.heap.size hn hx1) rfl (by show fg_nm y_Code_isShaped 1; decide +kernel) u_983 u_985 u_7 u_182 u_986 ⟨Nat.le_of_ble_eq_true rfl, Nat.le_of_ble_eq_true rfl⟩ hX (hP.sub (ws' := [(h0, .inr (2, [.ref hs, .ref hi, .ref hm, .int (nI n), .int cf1, .int o, .int ct1, .int ct2, .int co1, .int cf2, .int cg1, .int cb1, .int cn1, .int cn2, .int cr1, .int cr2])), (hs, .inl (cs, 2000, .inr (.inl f)))]) [0, 1] rfl) (hK.sub (tys' := [(cs, .long)]) [0] rfl) (hD.sub (ws' := [(h0, .inr (2, [.ref hs, .ref hi, .ref hm, .int (nI n), .int cf1, .int o, .int ct1, .int ct2, .int co1, .int cf2, .int cg1, .int cb1, .int cn1, .int cn2, .int cr1, .int cr2])), (hs, .inl (cs, 2000, .inr (.inl f)))]) [0, 1] (by decide) rfl) rfl rfl rfl rfl hl.1 (Nat.le_of_ble_eq_true rfl) d_Code_faultOfSlot_2 ⟨(Nat.le_of_ble_eq_true rfl), (Nat.le_of_ble_eq_true rfl)⟩) hP hD hK hS hA [0, 1] [] rfl rfl (by decide) (by decide) (fun r2_1 u H locs hw2_0 hP hD hK hS => ?_)
  try dsimp only at hw2_0
  have hP : va_P D classes [(h0, .inr (2, [.ref hs, .ref hi, .ref hm, .int (nI n), .int cf1, .int o, .int ct1, .int ct2, .int co1, .int cf2, .int cg1, .int cb1, .int cn1, .int cn2, .int cr1, .int cr2])), (hs, .inl (cs, 2000, .inr (.inl f)))] H := hP
  have hD : va_D A [(h0, .inr (2, [.ref hs, .ref hi, .ref hm, .int (nI n), .int cf1, .int o, .int ct1, .int ct2, .int co1, .int cf2, .int cg1, .int cb1, .int cn1, .int cn2, .int cr1, .int cr2])), (hs, .inl (cs, 2000, .inr (.inl f)))] := hD
  have hK : va_K D classes [(cs, .long)] s := hK
  refine W.widen (k := 0) (n := 0) (Nat.le_of_ble_eq_true rfl) (Nat.le_of_ble_eq_true rfl) ?_
  obtain ⟨hw2_0_0, hw2_0_1⟩ := hw2_0
  subst hw2_0_0
  have hP : va_P D classes [(h0, .inr (2, [.ref hs, .ref hi, .ref hm, .int (nI n), .int cf1, .int o, .int ct1, .int ct2, .int co1, .int cf2, .int cg1, .int cb1, .int cn1, .int cn2, .int cr1, .int cr2])), (hs, .inl (cs, 2000, .inr (.inl f)))] H := hP
  have hD : va_D A [(h0, .inr (2, [.ref hs, .ref hi, .ref hm, .int (nI n), .int cf1, .int o, .int ct1, .int ct2, .int co1, .int cf2, .int cg1, .int cb1, .int cn1, .int cn2, .int cr1, .int cr2])), (hs, .inl (cs, 2000, .inr (.inl f)))] := hD
  refine lv_if_ne (tgt := 10) hx hb d_Code_faultOfSlot_5 (by decide) (fun c_2 => ?_) (fun c_2 => ?_)
  · have j10_2 : ∀ (v10_2 : Int32) (H : Heap) (locs : List Loc) (ls : Array Slot), v10_2 = (fx_Code_faultOfSlot_j10 cg1) → (v10_2 = 1 ∨ v10_2 = 0) → va_P D classes [(h0, .inr (2, [.ref hs, .ref hi, .ref hm, .int (nI n), .int cf1, .int o, .int ct1, .int ct2, .int co1, .int cf2, .int cg1, .int cb1, .int cn1, .int cn2, .int cr1, .int cr2])), (hs, .inl (cs, 2000, .inr (.inl f)))] H → va_D A [(h0, .inr (2, [.ref hs, .ref hi, .ref hm, .int (nI n), .int cf1, .int o, .int ct1, .int ct2, .int co1, .int cf2, .int cg1, .int cb1, .int cn1, .int cn2, .int cr1, .int cr2])), (hs, .inl (cs, 2000, .inr (.inl f)))] → va_S A s.heap H locs → lv_has ls 4 [(0, .ref h0), (1, .int x1), (2, .int x2)] → W p l e rm_Code_faultOfSlot s m [.ref h0, .int x1, .int x2].toArray below meth c H locs (0) (0) (MQ below (q_Code_faultOfSlot D h0 hs hi hm n cf1 o ct1 ct2 co1 cf2 cg1 cb1 cn1 cn2 cr1 cr2 cs f x1 x2 A) [.ref h0, .int x1, .int x2].toArray s rm_Code_faultOfSlot.cells rm_Code_faultOfSlot.slots A) (F0 m 40 ls (.int v10_2 :: [])) := by
      intro v10_2 H locs ls hv10_2 zv10_2 hP hD hS hl
      subst hv10_2
      refine lv_istore_n (lv' := [(3, .int (fx_Code_faultOfSlot_j10 cg1)), (0, .ref h0), (1, .int x1), (2, .int x2)]) hx hb d_Code_faultOfSlot_40 rfl hl (by decide) rfl (fun ls hl => ?_)
      refine lv_aload_n hx hb d_Code_faultOfSlot_41 rfl (lv_at hl 1 rfl) ?_
      refine va_get (D := D) (ci := 2) (v := .int ct1) (C := "FilterGuard$Code") (T := F_Code) (N := 16) hx hb hts i_Code hown hK hP 0 rfl rfl 6 (by decide) (hts _ u_233) (fun _ h9 => h9) rfl d_Code_faultOfSlot_42 ?_
      refine lv_bipush (v := 10) hx hb d_Code_faultOfSlot_45 (by decide) ?_
      refine lv_icmp_gt (tgt := 72) hx hb d_Code_faultOfSlot_47 (by decide) (fun c_4 => ?_) (fun c_4 => ?_)
      · refine lv_iconst (v := 2) hx hb d_Code_faultOfSlot_72 (by decide) ?_
        exact fg_reti () hx hb hr hlocks (by unfold fx_Code_faultOfSlot_r; (repeat rw [if_neg c_2]); (repeat rw [if_pos c_4]); first | done | rfl | contradiction) (hP.sub (ws' := [(h0, .inr (2, [.ref hs, .ref hi, .ref hm, .int (nI n), .int cf1, .int o, .int ct1, .int ct2, .int co1, .int cf2, .int cg1, .int cb1, .int cn1, .int cn2, .int cr1, .int cr2])), (hs, .inl (cs, 2000, .inr (.inl f)))]) [0, 1] rfl) (hK.sub (tys' := []) [] rfl) (hD.sub (ws' := [(h0, .inr (2, [.ref hs, .ref hi, .ref hm, .int (nI n), .int cf1, .int o, .int ct1, .int ct2, .int co1, .int cf2, .int cg1, .int cb1, .int cn1, .int cn2, .int cr1, .int cr2])), (hs, .inl (cs, 2000, .inr (.inl f)))]) [0, 1] (by decide) rfl) hS (Nat.le_of_ble_eq_true rfl) (Nat.le_of_ble_eq_true rfl) d_Code_faultOfSlot_73
      · refine lv_aload_n hx hb d_Code_faultOfSlot_50 rfl (lv_at hl 1 rfl) ?_
        refine va_get (D := D) (ci := 2) (v := .int ct2) (C := "FilterGuard$Code") (T := F_Code) (N := 16) hx hb hts i_Code hown hK hP 0 rfl rfl 7 (by decide) (hts _ u_238) (fun _ h9 => h9) rfl d_Code_faultOfSlot_51 ?_
        refine lv_bipush (v := 10) hx hb d_Code_faultOfSlot_54 (by decide) ?_
        refine lv_icmp_gt (tgt := 72) hx hb d_Code_faultOfSlot_56 (by decide) (fun c_5 => ?_) (fun c_5 => ?_)
        · refine lv_iconst (v := 2) hx hb d_Code_faultOfSlot_72 (by decide) ?_
          exact fg_reti () hx hb hr hlocks (by unfold fx_Code_faultOfSlot_r; (repeat rw [if_neg c_2]); (repeat rw [if_neg c_4]); (repeat rw [if_pos c_5]); first | done | rfl | contradiction) (hP.sub (ws' := [(h0, .inr (2, [.ref hs, .ref hi, .ref hm, .int (nI n), .int cf1, .int o, .int ct1, .int ct2, .int co1, .int cf2, .int cg1, .int cb1, .int cn1, .int cn2, .int cr1, .int cr2])), (hs, .inl (cs, 2000, .inr (.inl f)))]) [0, 1] rfl) (hK.sub (tys' := []) [] rfl) (hD.sub (ws' := [(h0, .inr (2, [.ref hs, .ref hi, .ref hm, .int (nI n), .int cf1, .int o, .int ct1, .int ct2, .int co1, .int cf2, .int cg1, .int cb1, .int cn1, .int cn2, .int cr1, .int cr2])), (hs, .inl (cs, 2000, .inr (.inl f)))]) [0, 1] (by decide) rfl) hS (Nat.le_of_ble_eq_true rfl) (Nat.le_of_ble_eq_true rfl) d_Code_faultOfSlot_73
        · refine lv_iload_n hx hb d_Code_faultOfSlot_59 rfl (lv_at hl 0 rfl) ?_
          refine lv_if_eq (tgt := 74) hx hb d_Code_faultOfSlot_60 (by decide) (fun c_6 => ?_) (fun c_6 => ?_)
          · refine lv_aload_n hx hb d_Code_faultOfSlot_74 rfl (lv_at hl 1 rfl) ?_
            refine va_get (D := D) (ci := 2) (v := .int cg1) (C := "FilterGuard$Code") (T := F_Code) (N := 16) hx hb hts i_Code hown hK hP 0 rfl rfl 10 (by decide) (hts _ u_252) (fun _ h9 => h9) rfl d_Code_faultOfSlot_75 ?_
            refine lv_bipush (v := 6) hx hb d_Code_faultOfSlot_78 (by decide) ?_
            refine lv_icmp_ne (tgt := 99) hx hb d_Code_faultOfSlot_80 (by decide) (fun c_7 => ?_) (fun c_7 => ?_)
            · refine lv_aload_n hx hb d_Code_faultOfSlot_99 rfl (lv_at hl 1 rfl) ?_
              refine va_get (D := D) (ci := 2) (v := .int cg1) (C := "FilterGuard$Code") (T := F_Code) (N := 16) hx hb hts i_Code hown hK hP 0 rfl rfl 10 (by decide) (hts _ u_252) (fun _ h9 => h9) rfl d_Code_faultOfSlot_100 ?_
              refine lv_bipush (v := 9) hx hb d_Code_faultOfSlot_103 (by decide) ?_
              refine lv_icmp_ne (tgt := 127) hx hb d_Code_faultOfSlot_105 (by decide) (fun c_8 => ?_) (fun c_8 => ?_)
              · refine lv_aload_n hx hb d_Code_faultOfSlot_127 rfl (lv_at hl 1 rfl) ?_
                refine va_get (D := D) (ci := 2) (v := .int cg1) (C := "FilterGuard$Code") (T := F_Code) (N := 16) hx hb hts i_Code hown hK hP 0 rfl rfl 10 (by decide) (hts _ u_252) (fun _ h9 => h9) rfl d_Code_faultOfSlot_128 ?_
                refine lv_iconst (v := 1) hx hb d_Code_faultOfSlot_131 (by decide) ?_
                refine lv_icmp_ne (tgt := 162) hx hb d_Code_faultOfSlot_132 (by decide) (fun c_9 => ?_) (fun c_9 => ?_)
                · refine lv_iconst (v := 0) hx hb d_Code_faultOfSlot_162 (by decide) ?_
                  exact fg_reti () hx hb hr hlocks (by unfold fx_Code_faultOfSlot_r; (repeat rw [if_neg c_2]); (repeat rw [if_neg c_4]); (repeat rw [if_neg c_5]); (repeat rw [if_pos c_6]); (repeat rw [if_neg c_7]); (repeat rw [if_neg c_8]); (repeat rw [if_neg c_9]); first | done | rfl | contradiction) (hP.sub (ws' := [(h0, .inr (2, [.ref hs, .ref hi, .ref hm, .int (nI n), .int cf1, .int o, .int ct1, .int ct2, .int co1, .int cf2, .int cg1, .int cb1, .int cn1, .int cn2, .int cr1, .int cr2])), (hs, .inl (cs, 2000, .inr (.inl f)))]) [0, 1] rfl) (hK.sub (tys' := []) [] rfl) (hD.sub (ws' := [(h0, .inr (2, [.ref hs, .ref hi, .ref hm, .int (nI n), .int cf1, .int o, .int ct1, .int ct2, .int co1, .int cf2, .int cg1, .int cb1, .int cn1, .int cn2, .int cr1, .int cr2])), (hs, .inl (cs, 2000, .inr (.inl f)))]) [0, 1] (by decide) rfl) hS (Nat.le_of_ble_eq_true rfl) (Nat.le_of_ble_eq_true rfl) d_Code_faultOfSlot_163
                · refine lv_aload_n hx hb d_Code_faultOfSlot_135 rfl (lv_at hl 1 rfl) ?_
                  refine va_get (D := D) (ci := 2) (v := .int ct2) (C := "FilterGuard$Code") (T := F_Code) (N := 16) hx hb hts i_Code hown hK hP 0 rfl rfl 7 (by decide) (hts _ u_238) (fun _ h9 => h9) rfl d_Code_faultOfSlot_136 ?_
                  refine lv_iconst (v := 1) hx hb d_Code_faultOfSlot_139 (by decide) ?_
                  refine lv_icmp_ne (tgt := 162) hx hb d_Code_faultOfSlot_140 (by decide) (fun c_10 => ?_) (fun c_10 => ?_)
                  · refine lv_iconst (v := 0) hx hb d_Code_faultOfSlot_162 (by decide) ?_
                    exact fg_reti () hx hb hr hlocks (by unfold fx_Code_faultOfSlot_r; (repeat rw [if_neg c_2]); (repeat rw [if_neg c_4]); (repeat rw [if_neg c_5]); (repeat rw [if_pos c_6]); (repeat rw [if_neg c_7]); (repeat rw [if_neg c_8]); (repeat rw [if_pos c_9]); (repeat rw [if_neg c_10]); first | done | rfl | contradiction) (hP.sub (ws' := [(h0, .inr (2, [.ref hs, .ref hi, .ref hm, .int (nI n), .int cf1, .int o, .int ct1, .int ct2, .int co1, .int cf2, .int cg1, .int cb1, .int cn1, .int cn2, .int cr1, .int cr2])), (hs, .inl (cs, 2000, .inr (.inl f)))]) [0, 1] rfl) (hK.sub (tys' := []) [] rfl) (hD.sub (ws' := [(h0, .inr (2, [.ref hs, .ref hi, .ref hm, .int (nI n), .int cf1, .int o, .int ct1, .int ct2, .int co1, .int cf2, .int cg1, .int cb1, .int cn1, .int cn2, .int cr1, .int cr2])), (hs, .inl (cs, 2000, .inr (.inl f)))]) [0, 1] (by decide) rfl) hS (Nat.le_of_ble_eq_true rfl) (Nat.le_of_ble_eq_true rfl) d_Code_faultOfSlot_163
                  · refine lv_aload_n hx hb d_Code_faultOfSlot_143 rfl (lv_at hl 1 rfl) ?_
                    refine va_get (D := D) (ci := 2) (v := .int cf2) (C := "FilterGuard$Code") (T := F_Code) (N := 16) hx hb hts i_Code hown hK hP 0 rfl rfl 9 (by decide) (hts _ u_247) (fun _ h9 => h9) rfl d_Code_faultOfSlot_144 ?_
                    refine lv_if_lt (tgt := 158) hx hb d_Code_faultOfSlot_147 (by decide) (fun c_11 => ?_) (fun c_11 => ?_)
                    · refine lv_iconst (v := 4) hx hb d_Code_faultOfSlot_158 (by decide) ?_
                      refine lv_goto (tgt := 163) hx hb d_Code_faultOfSlot_159 (by decide) ?_
                      exact fg_reti () hx hb hr hlocks (by unfold fx_Code_faultOfSlot_r; (repeat rw [if_neg c_2]); (repeat rw [if_neg c_4]); (repeat rw [if_neg c_5]); (repeat rw [if_pos c_6]); (repeat rw [if_neg c_7]); (repeat rw [if_neg c_8]); (repeat rw [if_pos c_9]); (repeat rw [if_pos c_10]); (repeat rw [if_pos c_11]); first | done | rfl | contradiction) (hP.sub (ws' := [(h0, .inr (2, [.ref hs, .ref hi, .ref hm, .int (nI n), .int cf1, .int o, .int ct1, .int ct2, .int co1, .int cf2, .int cg1, .int cb1, .int cn1, .int cn2, .int cr1, .int cr2])), (hs, .inl (cs, 2000, .inr (.inl f)))]) [0, 1] rfl) (hK.sub (tys' := []) [] rfl) (hD.sub (ws' := [(h0, .inr (2, [.ref hs, .ref hi, .ref hm, .int (nI n), .int cf1, .int o, .int ct1, .int ct2, .int co1, .int cf2, .int cg1, .int cb1, .int cn1, .int cn2, .int cr1, .int cr2])), (hs, .inl (cs, 2000, .inr (.inl f)))]) [0, 1] (by decide) rfl) hS (Nat.le_of_ble_eq_true rfl) (Nat.le_of_ble_eq_true rfl) d_Code_faultOfSlot_163
                    · refine lv_aload_n hx hb d_Code_faultOfSlot_150 rfl (lv_at hl 1 rfl) ?_
                      refine va_get (D := D) (ci := 2) (v := .int cf2) (C := "FilterGuard$Code") (T := F_Code) (N := 16) hx hb hts i_Code hown hK hP 0 rfl rfl 9 (by decide) (hts _ u_247) (fun _ h9 => h9) rfl d_Code_faultOfSlot_151 ?_
                      refine lv_iload_n hx hb d_Code_faultOfSlot_154 rfl (lv_at hl 3 rfl) ?_
                      refine lv_icmp_lt (tgt := 162) hx hb d_Code_faultOfSlot_155 (by decide) (fun c_12 => ?_) (fun c_12 => ?_)
                      · refine lv_iconst (v := 0) hx hb d_Code_faultOfSlot_162 (by decide) ?_
                        exact fg_reti () hx hb hr hlocks (by unfold fx_Code_faultOfSlot_r; (repeat rw [if_neg c_2]); (repeat rw [if_neg c_4]); (repeat rw [if_neg c_5]); (repeat rw [if_pos c_6]); (repeat rw [if_neg c_7]); (repeat rw [if_neg c_8]); (repeat rw [if_pos c_9]); (repeat rw [if_pos c_10]); (repeat rw [if_neg c_11]); (repeat rw [if_pos c_12]); first | done | rfl | contradiction) (hP.sub (ws' := [(h0, .inr (2, [.ref hs, .ref hi, .ref hm, .int (nI n), .int cf1, .int o, .int ct1, .int ct2, .int co1, .int cf2, .int cg1, .int cb1, .int cn1, .int cn2, .int cr1, .int cr2])), (hs, .inl (cs, 2000, .inr (.inl f)))]) [0, 1] rfl) (hK.sub (tys' := []) [] rfl) (hD.sub (ws' := [(h0, .inr (2, [.ref hs, .ref hi, .ref hm, .int (nI n), .int cf1, .int o, .int ct1, .int ct2, .int co1, .int cf2, .int cg1, .int cb1, .int cn1, .int cn2, .int cr1, .int cr2])), (hs, .inl (cs, 2000, .inr (.inl f)))]) [0, 1] (by decide) rfl) hS (Nat.le_of_ble_eq_true rfl) (Nat.le_of_ble_eq_true rfl) d_Code_faultOfSlot_163
                      · refine lv_iconst (v := 4) hx hb d_Code_faultOfSlot_158 (by decide) ?_
                        refine lv_goto (tgt := 163) hx hb d_Code_faultOfSlot_159 (by decide) ?_
                        exact fg_reti () hx hb hr hlocks (by unfold fx_Code_faultOfSlot_r; (repeat rw [if_neg c_2]); (repeat rw [if_neg c_4]); (repeat rw [if_neg c_5]); (repeat rw [if_pos c_6]); (repeat rw [if_neg c_7]); (repeat rw [if_neg c_8]); (repeat rw [if_pos c_9]); (repeat rw [if_pos c_10]); (repeat rw [if_neg c_11]); (repeat rw [if_neg c_12]); first | done | rfl | contradiction) (hP.sub (ws' := [(h0, .inr (2, [.ref hs, .ref hi, .ref hm, .int (nI n), .int cf1, .int o, .int ct1, .int ct2, .int co1, .int cf2, .int cg1, .int cb1, .int cn1, .int cn2, .int cr1, .int cr2])), (hs, .inl (cs, 2000, .inr (.inl f)))]) [0, 1] rfl) (hK.sub (tys' := []) [] rfl) (hD.sub (ws' := [(h0, .inr (2, [.ref hs, .ref hi, .ref hm, .int (nI n), .int cf1, .int o, .int ct1, .int ct2, .int co1, .int cf2, .int cg1, .int cb1, .int cn1, .int cn2, .int cr1, .int cr2])), (hs, .inl (cs, 2000, .inr (.inl f)))]) [0, 1] (by decide) rfl) hS (Nat.le_of_ble_eq_true rfl) (Nat.le_of_ble_eq_true rfl) d_Code_faultOfSlot_163
              · refine lv_aload_n hx hb d_Code_faultOfSlot_108 rfl (lv_at hl 1 rfl) ?_
                refine va_get (D := D) (ci := 2) (v := .int cf2) (C := "FilterGuard$Code") (T := F_Code) (N := 16) hx hb hts i_Code hown hK hP 0 rfl rfl 9 (by decide) (hts _ u_247) (fun _ h9 => h9) rfl d_Code_faultOfSlot_109 ?_
                refine lv_iconst (v := 1) hx hb d_Code_faultOfSlot_112 (by decide) ?_
                refine lv_icmp_lt (tgt := 125) hx hb d_Code_faultOfSlot_113 (by decide) (fun c_13 => ?_) (fun c_13 => ?_)
                · refine lv_iconst (v := 4) hx hb d_Code_faultOfSlot_125 (by decide) ?_
                  exact fg_reti () hx hb hr hlocks (by unfold fx_Code_faultOfSlot_r; (repeat rw [if_neg c_2]); (repeat rw [if_neg c_4]); (repeat rw [if_neg c_5]); (repeat rw [if_pos c_6]); (repeat rw [if_neg c_7]); (repeat rw [if_pos c_8]); (repeat rw [if_pos c_13]); first | done | rfl | contradiction) (hP.sub (ws' := [(h0, .inr (2, [.ref hs, .ref hi, .ref hm, .int (nI n), .int cf1, .int o, .int ct1, .int ct2, .int co1, .int cf2, .int cg1, .int cb1, .int cn1, .int cn2, .int cr1, .int cr2])), (hs, .inl (cs, 2000, .inr (.inl f)))]) [0, 1] rfl) (hK.sub (tys' := []) [] rfl) (hD.sub (ws' := [(h0, .inr (2, [.ref hs, .ref hi, .ref hm, .int (nI n), .int cf1, .int o, .int ct1, .int ct2, .int co1, .int cf2, .int cg1, .int cb1, .int cn1, .int cn2, .int cr1, .int cr2])), (hs, .inl (cs, 2000, .inr (.inl f)))]) [0, 1] (by decide) rfl) hS (Nat.le_of_ble_eq_true rfl) (Nat.le_of_ble_eq_true rfl) d_Code_faultOfSlot_126
                · refine lv_aload_n hx hb d_Code_faultOfSlot_116 rfl (lv_at hl 1 rfl) ?_
                  refine va_get (D := D) (ci := 2) (v := .int cf2) (C := "FilterGuard$Code") (T := F_Code) (N := 16) hx hb hts i_Code hown hK hP 0 rfl rfl 9 (by decide) (hts _ u_247) (fun _ h9 => h9) rfl d_Code_faultOfSlot_117 ?_
                  refine lv_bipush (v := 6) hx hb d_Code_faultOfSlot_120 (by decide) ?_
                  refine lv_icmp_le (tgt := 127) hx hb d_Code_faultOfSlot_122 (by decide) (fun c_14 => ?_) (fun c_14 => ?_)
                  · refine lv_aload_n hx hb d_Code_faultOfSlot_127 rfl (lv_at hl 1 rfl) ?_
                    refine va_get (D := D) (ci := 2) (v := .int cg1) (C := "FilterGuard$Code") (T := F_Code) (N := 16) hx hb hts i_Code hown hK hP 0 rfl rfl 10 (by decide) (hts _ u_252) (fun _ h9 => h9) rfl d_Code_faultOfSlot_128 ?_
                    refine lv_iconst (v := 1) hx hb d_Code_faultOfSlot_131 (by decide) ?_
                    have gk_16 : ¬ cg1 = 1 := (fun z9 => absurd (c_8.symm.trans z9) (by decide))
                    refine lv_icmp_ne (tgt := 162) hx hb d_Code_faultOfSlot_132 (by decide) (fun c_15 => ?_) (fun c_15 => absurd c_15 gk_16)
                    refine lv_iconst (v := 0) hx hb d_Code_faultOfSlot_162 (by decide) ?_
                    exact fg_reti () hx hb hr hlocks (by unfold fx_Code_faultOfSlot_r; (repeat rw [if_neg c_2]); (repeat rw [if_neg c_4]); (repeat rw [if_neg c_5]); (repeat rw [if_pos c_6]); (repeat rw [if_neg c_7]); (repeat rw [if_pos c_8]); (repeat rw [if_neg c_13]); (repeat rw [if_pos c_14]); (repeat rw [if_neg gk_16]); first | done | rfl | contradiction) (hP.sub (ws' := [(h0, .inr (2, [.ref hs, .ref hi, .ref hm, .int (nI n), .int cf1, .int o, .int ct1, .int ct2, .int co1, .int cf2, .int cg1, .int cb1, .int cn1, .int cn2, .int cr1, .int cr2])), (hs, .inl (cs, 2000, .inr (.inl f)))]) [0, 1] rfl) (hK.sub (tys' := []) [] rfl) (hD.sub (ws' := [(h0, .inr (2, [.ref hs, .ref hi, .ref hm, .int (nI n), .int cf1, .int o, .int ct1, .int ct2, .int co1, .int cf2, .int cg1, .int cb1, .int cn1, .int cn2, .int cr1, .int cr2])), (hs, .inl (cs, 2000, .inr (.inl f)))]) [0, 1] (by decide) rfl) hS (Nat.le_of_ble_eq_true rfl) (Nat.le_of_ble_eq_true rfl) d_Code_faultOfSlot_163
                  · refine lv_iconst (v := 4) hx hb d_Code_faultOfSlot_125 (by decide) ?_
                    exact fg_reti () hx hb hr hlocks (by unfold fx_Code_faultOfSlot_r; (repeat rw [if_neg c_2]); (repeat rw [if_neg c_4]); (repeat rw [if_neg c_5]); (repeat rw [if_pos c_6]); (repeat rw [if_neg c_7]); (repeat rw [if_pos c_8]); (repeat rw [if_neg c_13]); (repeat rw [if_neg c_14]); first | done | rfl | contradiction) (hP.sub (ws' := [(h0, .inr (2, [.ref hs, .ref hi, .ref hm, .int (nI n), .int cf1, .int o, .int ct1, .int ct2, .int co1, .int cf2, .int cg1, .int cb1, .int cn1, .int cn2, .int cr1, .int cr2])), (hs, .inl (cs, 2000, .inr (.inl f)))]) [0, 1] rfl) (hK.sub (tys' := []) [] rfl) (hD.sub (ws' := [(h0, .inr (2, [.ref hs, .ref hi, .ref hm, .int (nI n), .int cf1, .int o, .int ct1, .int ct2, .int co1, .int cf2, .int cg1, .int cb1, .int cn1, .int cn2, .int cr1, .int cr2])), (hs, .inl (cs, 2000, .inr (.inl f)))]) [0, 1] (by decide) rfl) hS (Nat.le_of_ble_eq_true rfl) (Nat.le_of_ble_eq_true rfl) d_Code_faultOfSlot_126
            · refine lv_aload_n hx hb d_Code_faultOfSlot_83 rfl (lv_at hl 1 rfl) ?_
              refine va_get (D := D) (ci := 2) (v := .int cr2) (C := "FilterGuard$Code") (T := F_Code) (N := 16) hx hb hts i_Code hown hK hP 0 rfl rfl 15 (by decide) (hts _ u_273) (fun _ h9 => h9) rfl d_Code_faultOfSlot_84 ?_
              refine lv_if_ne (tgt := 99) hx hb d_Code_faultOfSlot_87 (by decide) (fun c_17 => ?_) (fun c_17 => ?_)
              · refine lv_aload_n hx hb d_Code_faultOfSlot_99 rfl (lv_at hl 1 rfl) ?_
                refine va_get (D := D) (ci := 2) (v := .int cg1) (C := "FilterGuard$Code") (T := F_Code) (N := 16) hx hb hts i_Code hown hK hP 0 rfl rfl 10 (by decide) (hts _ u_252) (fun _ h9 => h9) rfl d_Code_faultOfSlot_100 ?_
                refine lv_bipush (v := 9) hx hb d_Code_faultOfSlot_103 (by decide) ?_
                have gk_19 : ¬ cg1 = 9 := (fun z9 => absurd (c_7.symm.trans z9) (by decide))
                refine lv_icmp_ne (tgt := 127) hx hb d_Code_faultOfSlot_105 (by decide) (fun c_18 => ?_) (fun c_18 => absurd c_18 gk_19)
                refine lv_aload_n hx hb d_Code_faultOfSlot_127 rfl (lv_at hl 1 rfl) ?_
                refine va_get (D := D) (ci := 2) (v := .int cg1) (C := "FilterGuard$Code") (T := F_Code) (N := 16) hx hb hts i_Code hown hK hP 0 rfl rfl 10 (by decide) (hts _ u_252) (fun _ h9 => h9) rfl d_Code_faultOfSlot_128 ?_
                refine lv_iconst (v := 1) hx hb d_Code_faultOfSlot_131 (by decide) ?_
                have gk_21 : ¬ cg1 = 1 := (fun z9 => absurd (c_7.symm.trans z9) (by decide))
                refine lv_icmp_ne (tgt := 162) hx hb d_Code_faultOfSlot_132 (by decide) (fun c_20 => ?_) (fun c_20 => absurd c_20 gk_21)
                refine lv_iconst (v := 0) hx hb d_Code_faultOfSlot_162 (by decide) ?_
                exact fg_reti () hx hb hr hlocks (by unfold fx_Code_faultOfSlot_r; (repeat rw [if_neg c_2]); (repeat rw [if_neg c_4]); (repeat rw [if_neg c_5]); (repeat rw [if_pos c_6]); (repeat rw [if_pos c_7]); (repeat rw [if_neg c_17]); (repeat rw [if_neg gk_19]); (repeat rw [if_neg gk_21]); first | done | rfl | contradiction) (hP.sub (ws' := [(h0, .inr (2, [.ref hs, .ref hi, .ref hm, .int (nI n), .int cf1, .int o, .int ct1, .int ct2, .int co1, .int cf2, .int cg1, .int cb1, .int cn1, .int cn2, .int cr1, .int cr2])), (hs, .inl (cs, 2000, .inr (.inl f)))]) [0, 1] rfl) (hK.sub (tys' := []) [] rfl) (hD.sub (ws' := [(h0, .inr (2, [.ref hs, .ref hi, .ref hm, .int (nI n), .int cf1, .int o, .int ct1, .int ct2, .int co1, .int cf2, .int cg1, .int cb1, .int cn1, .int cn2, .int cr1, .int cr2])), (hs, .inl (cs, 2000, .inr (.inl f)))]) [0, 1] (by decide) rfl) hS (Nat.le_of_ble_eq_true rfl) (Nat.le_of_ble_eq_true rfl) d_Code_faultOfSlot_163
              · refine lv_aload_n hx hb d_Code_faultOfSlot_90 rfl (lv_at hl 1 rfl) ?_
                refine fg_theni (wr := [(hs, .inl (cs, 2000, .inr (.inl f)))]) (fg_runV (C := "FilterGuard$Code") (As := []) (rest := []) (ci := 2) (q0 := 0) ⟨hx, hb, hml, hown, hts⟩ (c_Code_isWrongField l D h0 hs hi hm n cf1 o ct1 ct2 co1 cf2 cg1 cb1 cn1 cn2 cr1 cr2 H.size) rfl (by show fg_nm y_Code_isWrongField 0; decide +kernel) u_996 u_998 u_10 u_182 u_999 ⟨Nat.le_of_ble_eq_true rfl, Nat.le_of_ble_eq_true rfl⟩ hX (hP.sub (ws' := [(h0, .inr (2, [.ref hs, .ref hi, .ref hm, .int (nI n), .int cf1, .int o, .int ct1, .int ct2, .int co1, .int cf2, .int cg1, .int cb1, .int cn1, .int cn2, .int cr1, .int cr2]))]) [0] rfl) (hK.sub (tys' := []) [] rfl) (hD.sub (ws' := [(h0, .inr (2, [.ref hs, .ref hi, .ref hm, .int (nI n), .int cf1, .int o, .int ct1, .int ct2, .int co1, .int cf2, .int cg1, .int cb1, .int cn1, .int cn2, .int cr1, .int cr2]))]) [0] (by decide) rfl) rfl rfl rfl rfl hl.1 (Nat.le_of_ble_eq_true rfl) d_Code_faultOfSlot_91 ⟨(Nat.le_of_ble_eq_true rfl), (Nat.le_of_ble_eq_true rfl)⟩) hP hD hK hS hA [0] [1] rfl rfl (by decide) (by decide) (fun r91_22 u H locs hw91_21 hP hD hK hS => ?_)
                try dsimp only at hw91_21
                have hP : va_P D classes [(hs, .inl (cs, 2000, .inr (.inl f))), (h0, .inr (2, [.ref hs, .ref hi, .ref hm, .int (nI n), .int cf1, .int o, .int ct1, .int ct2, .int co1, .int cf2, .int cg1, .int cb1, .int cn1, .int cn2, .int cr1, .int cr2]))] H := hP
                have hD : va_D A [(hs, .inl (cs, 2000, .inr (.inl f))), (h0, .inr (2, [.ref hs, .ref hi, .ref hm, .int (nI n), .int cf1, .int o, .int ct1, .int ct2, .int co1, .int cf2, .int cg1, .int cb1, .int cn1, .int cn2, .int cr1, .int cr2]))] := hD
                have hK : va_K D classes [(cs, .long)] s := hK
                refine W.widen (k := 0) (n := 0) (Nat.le_of_ble_eq_true rfl) (Nat.le_of_ble_eq_true rfl) ?_
                obtain ⟨hw91_21_0, hw91_21_1⟩ := hw91_21
                subst hw91_21_0
                have hP : va_P D classes [(hs, .inl (cs, 2000, .inr (.inl f))), (h0, .inr (2, [.ref hs, .ref hi, .ref hm, .int (nI n), .int cf1, .int o, .int ct1, .int ct2, .int co1, .int cf2, .int cg1, .int cb1, .int cn1, .int cn2, .int cr1, .int cr2]))] H := hP
                have hD : va_D A [(hs, .inl (cs, 2000, .inr (.inl f))), (h0, .inr (2, [.ref hs, .ref hi, .ref hm, .int (nI n), .int cf1, .int o, .int ct1, .int ct2, .int co1, .int cf2, .int cg1, .int cb1, .int cn1, .int cn2, .int cr1, .int cr2]))] := hD
                refine lv_if_eq (tgt := 99) hx hb d_Code_faultOfSlot_94 (by decide) (fun c_23 => ?_) (fun c_23 => ?_)
                · refine lv_aload_n hx hb d_Code_faultOfSlot_99 rfl (lv_at hl 1 rfl) ?_
                  refine va_get (D := D) (ci := 2) (v := .int cg1) (C := "FilterGuard$Code") (T := F_Code) (N := 16) hx hb hts i_Code hown hK hP 1 rfl rfl 10 (by decide) (hts _ u_252) (fun _ h9 => h9) rfl d_Code_faultOfSlot_100 ?_
                  refine lv_bipush (v := 9) hx hb d_Code_faultOfSlot_103 (by decide) ?_
                  have gk_25 : ¬ cg1 = 9 := (fun z9 => absurd (c_7.symm.trans z9) (by decide))
                  refine lv_icmp_ne (tgt := 127) hx hb d_Code_faultOfSlot_105 (by decide) (fun c_24 => ?_) (fun c_24 => absurd c_24 gk_25)
                  refine lv_aload_n hx hb d_Code_faultOfSlot_127 rfl (lv_at hl 1 rfl) ?_
                  refine va_get (D := D) (ci := 2) (v := .int cg1) (C := "FilterGuard$Code") (T := F_Code) (N := 16) hx hb hts i_Code hown hK hP 1 rfl rfl 10 (by decide) (hts _ u_252) (fun _ h9 => h9) rfl d_Code_faultOfSlot_128 ?_
                  refine lv_iconst (v := 1) hx hb d_Code_faultOfSlot_131 (by decide) ?_
                  have gk_27 : ¬ cg1 = 1 := (fun z9 => absurd (c_7.symm.trans z9) (by decide))
                  refine lv_icmp_ne (tgt := 162) hx hb d_Code_faultOfSlot_132 (by decide) (fun c_26 => ?_) (fun c_26 => absurd c_26 gk_27)
                  refine lv_iconst (v := 0) hx hb d_Code_faultOfSlot_162 (by decide) ?_
                  exact fg_reti () hx hb hr hlocks (by unfold fx_Code_faultOfSlot_r; (repeat rw [if_neg c_2]); (repeat rw [if_neg c_4]); (repeat rw [if_neg c_5]); (repeat rw [if_pos c_6]); (repeat rw [if_pos c_7]); (repeat rw [if_pos c_17]); (repeat rw [if_pos c_23]); (repeat rw [if_neg gk_25]); (repeat rw [if_neg gk_27]); first | done | rfl | contradiction) (hP.sub (ws' := [(h0, .inr (2, [.ref hs, .ref hi, .ref hm, .int (nI n), .int cf1, .int o, .int ct1, .int ct2, .int co1, .int cf2, .int cg1, .int cb1, .int cn1, .int cn2, .int cr1, .int cr2])), (hs, .inl (cs, 2000, .inr (.inl f)))]) [1, 0] rfl) (hK.sub (tys' := []) [] rfl) (hD.sub (ws' := [(h0, .inr (2, [.ref hs, .ref hi, .ref hm, .int (nI n), .int cf1, .int o, .int ct1, .int ct2, .int co1, .int cf2, .int cg1, .int cb1, .int cn1, .int cn2, .int cr1, .int cr2])), (hs, .inl (cs, 2000, .inr (.inl f)))]) [1, 0] (by decide) rfl) hS (Nat.le_of_ble_eq_true rfl) (Nat.le_of_ble_eq_true rfl) d_Code_faultOfSlot_163
                · refine lv_iconst (v := 3) hx hb d_Code_faultOfSlot_97 (by decide) ?_
                  exact fg_reti () hx hb hr hlocks (by unfold fx_Code_faultOfSlot_r; (repeat rw [if_neg c_2]); (repeat rw [if_neg c_4]); (repeat rw [if_neg c_5]); (repeat rw [if_pos c_6]); (repeat rw [if_pos c_7]); (repeat rw [if_pos c_17]); (repeat rw [if_neg c_23]); first | done | rfl | contradiction) (hP.sub (ws' := [(h0, .inr (2, [.ref hs, .ref hi, .ref hm, .int (nI n), .int cf1, .int o, .int ct1, .int ct2, .int co1, .int cf2, .int cg1, .int cb1, .int cn1, .int cn2, .int cr1, .int cr2])), (hs, .inl (cs, 2000, .inr (.inl f)))]) [1, 0] rfl) (hK.sub (tys' := []) [] rfl) (hD.sub (ws' := [(h0, .inr (2, [.ref hs, .ref hi, .ref hm, .int (nI n), .int cf1, .int o, .int ct1, .int ct2, .int co1, .int cf2, .int cg1, .int cb1, .int cn1, .int cn2, .int cr1, .int cr2])), (hs, .inl (cs, 2000, .inr (.inl f)))]) [1, 0] (by decide) rfl) hS (Nat.le_of_ble_eq_true rfl) (Nat.le_of_ble_eq_true rfl) d_Code_faultOfSlot_98
          · refine lv_aload_n hx hb d_Code_faultOfSlot_63 rfl (lv_at hl 1 rfl) ?_
            refine va_get (D := D) (ci := 2) (v := .int ct1) (C := "FilterGuard$Code") (T := F_Code) (N := 16) hx hb hts i_Code hown hK hP 0 rfl rfl 6 (by decide) (hts _ u_233) (fun _ h9 => h9) rfl d_Code_faultOfSlot_64 ?_
            refine lv_bipush (v := 10) hx hb d_Code_faultOfSlot_67 (by decide) ?_
            refine lv_icmp_ne (tgt := 74) hx hb d_Code_faultOfSlot_69 (by decide) (fun c_28 => ?_) (fun c_28 => ?_)
            · refine lv_aload_n hx hb d_Code_faultOfSlot_74 rfl (lv_at hl 1 rfl) ?_
              refine va_get (D := D) (ci := 2) (v := .int cg1) (C := "FilterGuard$Code") (T := F_Code) (N := 16) hx hb hts i_Code hown hK hP 0 rfl rfl 10 (by decide) (hts _ u_252) (fun _ h9 => h9) rfl d_Code_faultOfSlot_75 ?_
              refine lv_bipush (v := 6) hx hb d_Code_faultOfSlot_78 (by decide) ?_
              refine lv_icmp_ne (tgt := 99) hx hb d_Code_faultOfSlot_80 (by decide) (fun c_29 => ?_) (fun c_29 => ?_)
              · refine lv_aload_n hx hb d_Code_faultOfSlot_99 rfl (lv_at hl 1 rfl) ?_
                refine va_get (D := D) (ci := 2) (v := .int cg1) (C := "FilterGuard$Code") (T := F_Code) (N := 16) hx hb hts i_Code hown hK hP 0 rfl rfl 10 (by decide) (hts _ u_252) (fun _ h9 => h9) rfl d_Code_faultOfSlot_100 ?_
                refine lv_bipush (v := 9) hx hb d_Code_faultOfSlot_103 (by decide) ?_
                refine lv_icmp_ne (tgt := 127) hx hb d_Code_faultOfSlot_105 (by decide) (fun c_30 => ?_) (fun c_30 => ?_)
                · refine lv_aload_n hx hb d_Code_faultOfSlot_127 rfl (lv_at hl 1 rfl) ?_
                  refine va_get (D := D) (ci := 2) (v := .int cg1) (C := "FilterGuard$Code") (T := F_Code) (N := 16) hx hb hts i_Code hown hK hP 0 rfl rfl 10 (by decide) (hts _ u_252) (fun _ h9 => h9) rfl d_Code_faultOfSlot_128 ?_
                  refine lv_iconst (v := 1) hx hb d_Code_faultOfSlot_131 (by decide) ?_
                  refine lv_icmp_ne (tgt := 162) hx hb d_Code_faultOfSlot_132 (by decide) (fun c_31 => ?_) (fun c_31 => ?_)
                  · refine lv_iconst (v := 0) hx hb d_Code_faultOfSlot_162 (by decide) ?_
                    exact fg_reti () hx hb hr hlocks (by unfold fx_Code_faultOfSlot_r; (repeat rw [if_neg c_2]); (repeat rw [if_neg c_4]); (repeat rw [if_neg c_5]); (repeat rw [if_neg c_6]); (repeat rw [if_neg c_28]); (repeat rw [if_neg c_29]); (repeat rw [if_neg c_30]); (repeat rw [if_neg c_31]); first | done | rfl | contradiction) (hP.sub (ws' := [(h0, .inr (2, [.ref hs, .ref hi, .ref hm, .int (nI n), .int cf1, .int o, .int ct1, .int ct2, .int co1, .int cf2, .int cg1, .int cb1, .int cn1, .int cn2, .int cr1, .int cr2])), (hs, .inl (cs, 2000, .inr (.inl f)))]) [0, 1] rfl) (hK.sub (tys' := []) [] rfl) (hD.sub (ws' := [(h0, .inr (2, [.ref hs, .ref hi, .ref hm, .int (nI n), .int cf1, .int o, .int ct1, .int ct2, .int co1, .int cf2, .int cg1, .int cb1, .int cn1, .int cn2, .int cr1, .int cr2])), (hs, .inl (cs, 2000, .inr (.inl f)))]) [0, 1] (by decide) rfl) hS (Nat.le_of_ble_eq_true rfl) (Nat.le_of_ble_eq_true rfl) d_Code_faultOfSlot_163
                  · refine lv_aload_n hx hb d_Code_faultOfSlot_135 rfl (lv_at hl 1 rfl) ?_
                    refine va_get (D := D) (ci := 2) (v := .int ct2) (C := "FilterGuard$Code") (T := F_Code) (N := 16) hx hb hts i_Code hown hK hP 0 rfl rfl 7 (by decide) (hts _ u_238) (fun _ h9 => h9) rfl d_Code_faultOfSlot_136 ?_
                    refine lv_iconst (v := 1) hx hb d_Code_faultOfSlot_139 (by decide) ?_
                    refine lv_icmp_ne (tgt := 162) hx hb d_Code_faultOfSlot_140 (by decide) (fun c_32 => ?_) (fun c_32 => ?_)
                    · refine lv_iconst (v := 0) hx hb d_Code_faultOfSlot_162 (by decide) ?_
                      exact fg_reti () hx hb hr hlocks (by unfold fx_Code_faultOfSlot_r; (repeat rw [if_neg c_2]); (repeat rw [if_neg c_4]); (repeat rw [if_neg c_5]); (repeat rw [if_neg c_6]); (repeat rw [if_neg c_28]); (repeat rw [if_neg c_29]); (repeat rw [if_neg c_30]); (repeat rw [if_pos c_31]); (repeat rw [if_neg c_32]); first | done | rfl | contradiction) (hP.sub (ws' := [(h0, .inr (2, [.ref hs, .ref hi, .ref hm, .int (nI n), .int cf1, .int o, .int ct1, .int ct2, .int co1, .int cf2, .int cg1, .int cb1, .int cn1, .int cn2, .int cr1, .int cr2])), (hs, .inl (cs, 2000, .inr (.inl f)))]) [0, 1] rfl) (hK.sub (tys' := []) [] rfl) (hD.sub (ws' := [(h0, .inr (2, [.ref hs, .ref hi, .ref hm, .int (nI n), .int cf1, .int o, .int ct1, .int ct2, .int co1, .int cf2, .int cg1, .int cb1, .int cn1, .int cn2, .int cr1, .int cr2])), (hs, .inl (cs, 2000, .inr (.inl f)))]) [0, 1] (by decide) rfl) hS (Nat.le_of_ble_eq_true rfl) (Nat.le_of_ble_eq_true rfl) d_Code_faultOfSlot_163
                    · refine lv_aload_n hx hb d_Code_faultOfSlot_143 rfl (lv_at hl 1 rfl) ?_
                      refine va_get (D := D) (ci := 2) (v := .int cf2) (C := "FilterGuard$Code") (T := F_Code) (N := 16) hx hb hts i_Code hown hK hP 0 rfl rfl 9 (by decide) (hts _ u_247) (fun _ h9 => h9) rfl d_Code_faultOfSlot_144 ?_
                      refine lv_if_lt (tgt := 158) hx hb d_Code_faultOfSlot_147 (by decide) (fun c_33 => ?_) (fun c_33 => ?_)
                      · refine lv_iconst (v := 4) hx hb d_Code_faultOfSlot_158 (by decide) ?_
                        refine lv_goto (tgt := 163) hx hb d_Code_faultOfSlot_159 (by decide) ?_
                        exact fg_reti () hx hb hr hlocks (by unfold fx_Code_faultOfSlot_r; (repeat rw [if_neg c_2]); (repeat rw [if_neg c_4]); (repeat rw [if_neg c_5]); (repeat rw [if_neg c_6]); (repeat rw [if_neg c_28]); (repeat rw [if_neg c_29]); (repeat rw [if_neg c_30]); (repeat rw [if_pos c_31]); (repeat rw [if_pos c_32]); (repeat rw [if_pos c_33]); first | done | rfl | contradiction) (hP.sub (ws' := [(h0, .inr (2, [.ref hs, .ref hi, .ref hm, .int (nI n), .int cf1, .int o, .int ct1, .int ct2, .int co1, .int cf2, .int cg1, .int cb1, .int cn1, .int cn2, .int cr1, .int cr2])), (hs, .inl (cs, 2000, .inr (.inl f)))]) [0, 1] rfl) (hK.sub (tys' := []) [] rfl) (hD.sub (ws' := [(h0, .inr (2, [.ref hs, .ref hi, .ref hm, .int (nI n), .int cf1, .int o, .int ct1, .int ct2, .int co1, .int cf2, .int cg1, .int cb1, .int cn1, .int cn2, .int cr1, .int cr2])), (hs, .inl (cs, 2000, .inr (.inl f)))]) [0, 1] (by decide) rfl) hS (Nat.le_of_ble_eq_true rfl) (Nat.le_of_ble_eq_true rfl) d_Code_faultOfSlot_163
                      · refine lv_aload_n hx hb d_Code_faultOfSlot_150 rfl (lv_at hl 1 rfl) ?_
                        refine va_get (D := D) (ci := 2) (v := .int cf2) (C := "FilterGuard$Code") (T := F_Code) (N := 16) hx hb hts i_Code hown hK hP 0 rfl rfl 9 (by decide) (hts _ u_247) (fun _ h9 => h9) rfl d_Code_faultOfSlot_151 ?_
                        refine lv_iload_n hx hb d_Code_faultOfSlot_154 rfl (lv_at hl 3 rfl) ?_
                        refine lv_icmp_lt (tgt := 162) hx hb d_Code_faultOfSlot_155 (by decide) (fun c_34 => ?_) (fun c_34 => ?_)
                        · refine lv_iconst (v := 0) hx hb d_Code_faultOfSlot_162 (by decide) ?_
                          exact fg_reti () hx hb hr hlocks (by unfold fx_Code_faultOfSlot_r; (repeat rw [if_neg c_2]); (repeat rw [if_neg c_4]); (repeat rw [if_neg c_5]); (repeat rw [if_neg c_6]); (repeat rw [if_neg c_28]); (repeat rw [if_neg c_29]); (repeat rw [if_neg c_30]); (repeat rw [if_pos c_31]); (repeat rw [if_pos c_32]); (repeat rw [if_neg c_33]); (repeat rw [if_pos c_34]); first | done | rfl | contradiction) (hP.sub (ws' := [(h0, .inr (2, [.ref hs, .ref hi, .ref hm, .int (nI n), .int cf1, .int o, .int ct1, .int ct2, .int co1, .int cf2, .int cg1, .int cb1, .int cn1, .int cn2, .int cr1, .int cr2])), (hs, .inl (cs, 2000, .inr (.inl f)))]) [0, 1] rfl) (hK.sub (tys' := []) [] rfl) (hD.sub (ws' := [(h0, .inr (2, [.ref hs, .ref hi, .ref hm, .int (nI n), .int cf1, .int o, .int ct1, .int ct2, .int co1, .int cf2, .int cg1, .int cb1, .int cn1, .int cn2, .int cr1, .int cr2])), (hs, .inl (cs, 2000, .inr (.inl f)))]) [0, 1] (by decide) rfl) hS (Nat.le_of_ble_eq_true rfl) (Nat.le_of_ble_eq_true rfl) d_Code_faultOfSlot_163
                        · refine lv_iconst (v := 4) hx hb d_Code_faultOfSlot_158 (by decide) ?_
                          refine lv_goto (tgt := 163) hx hb d_Code_faultOfSlot_159 (by decide) ?_
                          exact fg_reti () hx hb hr hlocks (by unfold fx_Code_faultOfSlot_r; (repeat rw [if_neg c_2]); (repeat rw [if_neg c_4]); (repeat rw [if_neg c_5]); (repeat rw [if_neg c_6]); (repeat rw [if_neg c_28]); (repeat rw [if_neg c_29]); (repeat rw [if_neg c_30]); (repeat rw [if_pos c_31]); (repeat rw [if_pos c_32]); (repeat rw [if_neg c_33]); (repeat rw [if_neg c_34]); first | done | rfl | contradiction) (hP.sub (ws' := [(h0, .inr (2, [.ref hs, .ref hi, .ref hm, .int (nI n), .int cf1, .int o, .int ct1, .int ct2, .int co1, .int cf2, .int cg1, .int cb1, .int cn1, .int cn2, .int cr1, .int cr2])), (hs, .inl (cs, 2000, .inr (.inl f)))]) [0, 1] rfl) (hK.sub (tys' := []) [] rfl) (hD.sub (ws' := [(h0, .inr (2, [.ref hs, .ref hi, .ref hm, .int (nI n), .int cf1, .int o, .int ct1, .int ct2, .int co1, .int cf2, .int cg1, .int cb1, .int cn1, .int cn2, .int cr1, .int cr2])), (hs, .inl (cs, 2000, .inr (.inl f)))]) [0, 1] (by decide) rfl) hS (Nat.le_of_ble_eq_true rfl) (Nat.le_of_ble_eq_true rfl) d_Code_faultOfSlot_163
                · refine lv_aload_n hx hb d_Code_faultOfSlot_108 rfl (lv_at hl 1 rfl) ?_
                  refine va_get (D := D) (ci := 2) (v := .int cf2) (C := "FilterGuard$Code") (T := F_Code) (N := 16) hx hb hts i_Code hown hK hP 0 rfl rfl 9 (by decide) (hts _ u_247) (fun _ h9 => h9) rfl d_Code_faultOfSlot_109 ?_
                  refine lv_iconst (v := 1) hx hb d_Code_faultOfSlot_112 (by decide) ?_
                  refine lv_icmp_lt (tgt := 125) hx hb d_Code_faultOfSlot_113 (by decide) (fun c_35 => ?_) (fun c_35 => ?_)
                  · refine lv_iconst (v := 4) hx hb d_Code_faultOfSlot_125 (by decide) ?_
                    exact fg_reti () hx hb hr hlocks (by unfold fx_Code_faultOfSlot_r; (repeat rw [if_neg c_2]); (repeat rw [if_neg c_4]); (repeat rw [if_neg c_5]); (repeat rw [if_neg c_6]); (repeat rw [if_neg c_28]); (repeat rw [if_neg c_29]); (repeat rw [if_pos c_30]); (repeat rw [if_pos c_35]); first | done | rfl | contradiction) (hP.sub (ws' := [(h0, .inr (2, [.ref hs, .ref hi, .ref hm, .int (nI n), .int cf1, .int o, .int ct1, .int ct2, .int co1, .int cf2, .int cg1, .int cb1, .int cn1, .int cn2, .int cr1, .int cr2])), (hs, .inl (cs, 2000, .inr (.inl f)))]) [0, 1] rfl) (hK.sub (tys' := []) [] rfl) (hD.sub (ws' := [(h0, .inr (2, [.ref hs, .ref hi, .ref hm, .int (nI n), .int cf1, .int o, .int ct1, .int ct2, .int co1, .int cf2, .int cg1, .int cb1, .int cn1, .int cn2, .int cr1, .int cr2])), (hs, .inl (cs, 2000, .inr (.inl f)))]) [0, 1] (by decide) rfl) hS (Nat.le_of_ble_eq_true rfl) (Nat.le_of_ble_eq_true rfl) d_Code_faultOfSlot_126
                  · refine lv_aload_n hx hb d_Code_faultOfSlot_116 rfl (lv_at hl 1 rfl) ?_
                    refine va_get (D := D) (ci := 2) (v := .int cf2) (C := "FilterGuard$Code") (T := F_Code) (N := 16) hx hb hts i_Code hown hK hP 0 rfl rfl 9 (by decide) (hts _ u_247) (fun _ h9 => h9) rfl d_Code_faultOfSlot_117 ?_
                    refine lv_bipush (v := 6) hx hb d_Code_faultOfSlot_120 (by decide) ?_
                    refine lv_icmp_le (tgt := 127) hx hb d_Code_faultOfSlot_122 (by decide) (fun c_36 => ?_) (fun c_36 => ?_)
                    · refine lv_aload_n hx hb d_Code_faultOfSlot_127 rfl (lv_at hl 1 rfl) ?_
                      refine va_get (D := D) (ci := 2) (v := .int cg1) (C := "FilterGuard$Code") (T := F_Code) (N := 16) hx hb hts i_Code hown hK hP 0 rfl rfl 10 (by decide) (hts _ u_252) (fun _ h9 => h9) rfl d_Code_faultOfSlot_128 ?_
                      refine lv_iconst (v := 1) hx hb d_Code_faultOfSlot_131 (by decide) ?_
                      have gk_38 : ¬ cg1 = 1 := (fun z9 => absurd (c_30.symm.trans z9) (by decide))
                      refine lv_icmp_ne (tgt := 162) hx hb d_Code_faultOfSlot_132 (by decide) (fun c_37 => ?_) (fun c_37 => absurd c_37 gk_38)
                      refine lv_iconst (v := 0) hx hb d_Code_faultOfSlot_162 (by decide) ?_
                      exact fg_reti () hx hb hr hlocks (by unfold fx_Code_faultOfSlot_r; (repeat rw [if_neg c_2]); (repeat rw [if_neg c_4]); (repeat rw [if_neg c_5]); (repeat rw [if_neg c_6]); (repeat rw [if_neg c_28]); (repeat rw [if_neg c_29]); (repeat rw [if_pos c_30]); (repeat rw [if_neg c_35]); (repeat rw [if_pos c_36]); (repeat rw [if_neg gk_38]); first | done | rfl | contradiction) (hP.sub (ws' := [(h0, .inr (2, [.ref hs, .ref hi, .ref hm, .int (nI n), .int cf1, .int o, .int ct1, .int ct2, .int co1, .int cf2, .int cg1, .int cb1, .int cn1, .int cn2, .int cr1, .int cr2])), (hs, .inl (cs, 2000, .inr (.inl f)))]) [0, 1] rfl) (hK.sub (tys' := []) [] rfl) (hD.sub (ws' := [(h0, .inr (2, [.ref hs, .ref hi, .ref hm, .int (nI n), .int cf1, .int o, .int ct1, .int ct2, .int co1, .int cf2, .int cg1, .int cb1, .int cn1, .int cn2, .int cr1, .int cr2])), (hs, .inl (cs, 2000, .inr (.inl f)))]) [0, 1] (by decide) rfl) hS (Nat.le_of_ble_eq_true rfl) (Nat.le_of_ble_eq_true rfl) d_Code_faultOfSlot_163
                    · refine lv_iconst (v := 4) hx hb d_Code_faultOfSlot_125 (by decide) ?_
                      exact fg_reti () hx hb hr hlocks (by unfold fx_Code_faultOfSlot_r; (repeat rw [if_neg c_2]); (repeat rw [if_neg c_4]); (repeat rw [if_neg c_5]); (repeat rw [if_neg c_6]); (repeat rw [if_neg c_28]); (repeat rw [if_neg c_29]); (repeat rw [if_pos c_30]); (repeat rw [if_neg c_35]); (repeat rw [if_neg c_36]); first | done | rfl | contradiction) (hP.sub (ws' := [(h0, .inr (2, [.ref hs, .ref hi, .ref hm, .int (nI n), .int cf1, .int o, .int ct1, .int ct2, .int co1, .int cf2, .int cg1, .int cb1, .int cn1, .int cn2, .int cr1, .int cr2])), (hs, .inl (cs, 2000, .inr (.inl f)))]) [0, 1] rfl) (hK.sub (tys' := []) [] rfl) (hD.sub (ws' := [(h0, .inr (2, [.ref hs, .ref hi, .ref hm, .int (nI n), .int cf1, .int o, .int ct1, .int ct2, .int co1, .int cf2, .int cg1, .int cb1, .int cn1, .int cn2, .int cr1, .int cr2])), (hs, .inl (cs, 2000, .inr (.inl f)))]) [0, 1] (by decide) rfl) hS (Nat.le_of_ble_eq_true rfl) (Nat.le_of_ble_eq_true rfl) d_Code_faultOfSlot_126
              · refine lv_aload_n hx hb d_Code_faultOfSlot_83 rfl (lv_at hl 1 rfl) ?_
                refine va_get (D := D) (ci := 2) (v := .int cr2) (C := "FilterGuard$Code") (T := F_Code) (N := 16) hx hb hts i_Code hown hK hP 0 rfl rfl 15 (by decide) (hts _ u_273) (fun _ h9 => h9) rfl d_Code_faultOfSlot_84 ?_
                refine lv_if_ne (tgt := 99) hx hb d_Code_faultOfSlot_87 (by decide) (fun c_39 => ?_) (fun c_39 => ?_)
                · refine lv_aload_n hx hb d_Code_faultOfSlot_99 rfl (lv_at hl 1 rfl) ?_
                  refine va_get (D := D) (ci := 2) (v := .int cg1) (C := "FilterGuard$Code") (T := F_Code) (N := 16) hx hb hts i_Code hown hK hP 0 rfl rfl 10 (by decide) (hts _ u_252) (fun _ h9 => h9) rfl d_Code_faultOfSlot_100 ?_
                  refine lv_bipush (v := 9) hx hb d_Code_faultOfSlot_103 (by decide) ?_
                  have gk_41 : ¬ cg1 = 9 := (fun z9 => absurd (c_29.symm.trans z9) (by decide))
                  refine lv_icmp_ne (tgt := 127) hx hb d_Code_faultOfSlot_105 (by decide) (fun c_40 => ?_) (fun c_40 => absurd c_40 gk_41)
                  refine lv_aload_n hx hb d_Code_faultOfSlot_127 rfl (lv_at hl 1 rfl) ?_
                  refine va_get (D := D) (ci := 2) (v := .int cg1) (C := "FilterGuard$Code") (T := F_Code) (N := 16) hx hb hts i_Code hown hK hP 0 rfl rfl 10 (by decide) (hts _ u_252) (fun _ h9 => h9) rfl d_Code_faultOfSlot_128 ?_
                  refine lv_iconst (v := 1) hx hb d_Code_faultOfSlot_131 (by decide) ?_
                  have gk_43 : ¬ cg1 = 1 := (fun z9 => absurd (c_29.symm.trans z9) (by decide))
                  refine lv_icmp_ne (tgt := 162) hx hb d_Code_faultOfSlot_132 (by decide) (fun c_42 => ?_) (fun c_42 => absurd c_42 gk_43)
                  refine lv_iconst (v := 0) hx hb d_Code_faultOfSlot_162 (by decide) ?_
                  exact fg_reti () hx hb hr hlocks (by unfold fx_Code_faultOfSlot_r; (repeat rw [if_neg c_2]); (repeat rw [if_neg c_4]); (repeat rw [if_neg c_5]); (repeat rw [if_neg c_6]); (repeat rw [if_neg c_28]); (repeat rw [if_pos c_29]); (repeat rw [if_neg c_39]); (repeat rw [if_neg gk_41]); (repeat rw [if_neg gk_43]); first | done | rfl | contradiction) (hP.sub (ws' := [(h0, .inr (2, [.ref hs, .ref hi, .ref hm, .int (nI n), .int cf1, .int o, .int ct1, .int ct2, .int co1, .int cf2, .int cg1, .int cb1, .int cn1, .int cn2, .int cr1, .int cr2])), (hs, .inl (cs, 2000, .inr (.inl f)))]) [0, 1] rfl) (hK.sub (tys' := []) [] rfl) (hD.sub (ws' := [(h0, .inr (2, [.ref hs, .ref hi, .ref hm, .int (nI n), .int cf1, .int o, .int ct1, .int ct2, .int co1, .int cf2, .int cg1, .int cb1, .int cn1, .int cn2, .int cr1, .int cr2])), (hs, .inl (cs, 2000, .inr (.inl f)))]) [0, 1] (by decide) rfl) hS (Nat.le_of_ble_eq_true rfl) (Nat.le_of_ble_eq_true rfl) d_Code_faultOfSlot_163
                · refine lv_aload_n hx hb d_Code_faultOfSlot_90 rfl (lv_at hl 1 rfl) ?_
                  refine fg_theni (wr := [(hs, .inl (cs, 2000, .inr (.inl f)))]) (fg_runV (C := "FilterGuard$Code") (As := []) (rest := []) (ci := 2) (q0 := 0) ⟨hx, hb, hml, hown, hts⟩ (c_Code_isWrongField l D h0 hs hi hm n cf1 o ct1 ct2 co1 cf2 cg1 cb1 cn1 cn2 cr1 cr2 H.size) rfl (by show fg_nm y_Code_isWrongField 0; decide +kernel) u_996 u_998 u_10 u_182 u_999 ⟨Nat.le_of_ble_eq_true rfl, Nat.le_of_ble_eq_true rfl⟩ hX (hP.sub (ws' := [(h0, .inr (2, [.ref hs, .ref hi, .ref hm, .int (nI n), .int cf1, .int o, .int ct1, .int ct2, .int co1, .int cf2, .int cg1, .int cb1, .int cn1, .int cn2, .int cr1, .int cr2]))]) [0] rfl) (hK.sub (tys' := []) [] rfl) (hD.sub (ws' := [(h0, .inr (2, [.ref hs, .ref hi, .ref hm, .int (nI n), .int cf1, .int o, .int ct1, .int ct2, .int co1, .int cf2, .int cg1, .int cb1, .int cn1, .int cn2, .int cr1, .int cr2]))]) [0] (by decide) rfl) rfl rfl rfl rfl hl.1 (Nat.le_of_ble_eq_true rfl) d_Code_faultOfSlot_91 ⟨(Nat.le_of_ble_eq_true rfl), (Nat.le_of_ble_eq_true rfl)⟩) hP hD hK hS hA [0] [1] rfl rfl (by decide) (by decide) (fun r91_44 u H locs hw91_43 hP hD hK hS => ?_)
                  try dsimp only at hw91_43
                  have hP : va_P D classes [(hs, .inl (cs, 2000, .inr (.inl f))), (h0, .inr (2, [.ref hs, .ref hi, .ref hm, .int (nI n), .int cf1, .int o, .int ct1, .int ct2, .int co1, .int cf2, .int cg1, .int cb1, .int cn1, .int cn2, .int cr1, .int cr2]))] H := hP
                  have hD : va_D A [(hs, .inl (cs, 2000, .inr (.inl f))), (h0, .inr (2, [.ref hs, .ref hi, .ref hm, .int (nI n), .int cf1, .int o, .int ct1, .int ct2, .int co1, .int cf2, .int cg1, .int cb1, .int cn1, .int cn2, .int cr1, .int cr2]))] := hD
                  have hK : va_K D classes [(cs, .long)] s := hK
                  refine W.widen (k := 0) (n := 0) (Nat.le_of_ble_eq_true rfl) (Nat.le_of_ble_eq_true rfl) ?_
                  obtain ⟨hw91_43_0, hw91_43_1⟩ := hw91_43
                  subst hw91_43_0
                  have hP : va_P D classes [(hs, .inl (cs, 2000, .inr (.inl f))), (h0, .inr (2, [.ref hs, .ref hi, .ref hm, .int (nI n), .int cf1, .int o, .int ct1, .int ct2, .int co1, .int cf2, .int cg1, .int cb1, .int cn1, .int cn2, .int cr1, .int cr2]))] H := hP
                  have hD : va_D A [(hs, .inl (cs, 2000, .inr (.inl f))), (h0, .inr (2, [.ref hs, .ref hi, .ref hm, .int (nI n), .int cf1, .int o, .int ct1, .int ct2, .int co1, .int cf2, .int cg1, .int cb1, .int cn1, .int cn2, .int cr1, .int cr2]))] := hD
                  refine lv_if_eq (tgt := 99) hx hb d_Code_faultOfSlot_94 (by decide) (fun c_45 => ?_) (fun c_45 => ?_)
                  · refine lv_aload_n hx hb d_Code_faultOfSlot_99 rfl (lv_at hl 1 rfl) ?_
                    refine va_get (D := D) (ci := 2) (v := .int cg1) (C := "FilterGuard$Code") (T := F_Code) (N := 16) hx hb hts i_Code hown hK hP 1 rfl rfl 10 (by decide) (hts _ u_252) (fun _ h9 => h9) rfl d_Code_faultOfSlot_100 ?_
                    refine lv_bipush (v := 9) hx hb d_Code_faultOfSlot_103 (by decide) ?_
                    have gk_47 : ¬ cg1 = 9 := (fun z9 => absurd (c_29.symm.trans z9) (by decide))
                    refine lv_icmp_ne (tgt := 127) hx hb d_Code_faultOfSlot_105 (by decide) (fun c_46 => ?_) (fun c_46 => absurd c_46 gk_47)
                    refine lv_aload_n hx hb d_Code_faultOfSlot_127 rfl (lv_at hl 1 rfl) ?_
                    refine va_get (D := D) (ci := 2) (v := .int cg1) (C := "FilterGuard$Code") (T := F_Code) (N := 16) hx hb hts i_Code hown hK hP 1 rfl rfl 10 (by decide) (hts _ u_252) (fun _ h9 => h9) rfl d_Code_faultOfSlot_128 ?_
                    refine lv_iconst (v := 1) hx hb d_Code_faultOfSlot_131 (by decide) ?_
                    have gk_49 : ¬ cg1 = 1 := (fun z9 => absurd (c_29.symm.trans z9) (by decide))
                    refine lv_icmp_ne (tgt := 162) hx hb d_Code_faultOfSlot_132 (by decide) (fun c_48 => ?_) (fun c_48 => absurd c_48 gk_49)
                    refine lv_iconst (v := 0) hx hb d_Code_faultOfSlot_162 (by decide) ?_
                    exact fg_reti () hx hb hr hlocks (by unfold fx_Code_faultOfSlot_r; (repeat rw [if_neg c_2]); (repeat rw [if_neg c_4]); (repeat rw [if_neg c_5]); (repeat rw [if_neg c_6]); (repeat rw [if_neg c_28]); (repeat rw [if_pos c_29]); (repeat rw [if_pos c_39]); (repeat rw [if_pos c_45]); (repeat rw [if_neg gk_47]); (repeat rw [if_neg gk_49]); first | done | rfl | contradiction) (hP.sub (ws' := [(h0, .inr (2, [.ref hs, .ref hi, .ref hm, .int (nI n), .int cf1, .int o, .int ct1, .int ct2, .int co1, .int cf2, .int cg1, .int cb1, .int cn1, .int cn2, .int cr1, .int cr2])), (hs, .inl (cs, 2000, .inr (.inl f)))]) [1, 0] rfl) (hK.sub (tys' := []) [] rfl) (hD.sub (ws' := [(h0, .inr (2, [.ref hs, .ref hi, .ref hm, .int (nI n), .int cf1, .int o, .int ct1, .int ct2, .int co1, .int cf2, .int cg1, .int cb1, .int cn1, .int cn2, .int cr1, .int cr2])), (hs, .inl (cs, 2000, .inr (.inl f)))]) [1, 0] (by decide) rfl) hS (Nat.le_of_ble_eq_true rfl) (Nat.le_of_ble_eq_true rfl) d_Code_faultOfSlot_163
                  · refine lv_iconst (v := 3) hx hb d_Code_faultOfSlot_97 (by decide) ?_
                    exact fg_reti () hx hb hr hlocks (by unfold fx_Code_faultOfSlot_r; (repeat rw [if_neg c_2]); (repeat rw [if_neg c_4]); (repeat rw [if_neg c_5]); (repeat rw [if_neg c_6]); (repeat rw [if_neg c_28]); (repeat rw [if_pos c_29]); (repeat rw [if_pos c_39]); (repeat rw [if_neg c_45]); first | done | rfl | contradiction) (hP.sub (ws' := [(h0, .inr (2, [.ref hs, .ref hi, .ref hm, .int (nI n), .int cf1, .int o, .int ct1, .int ct2, .int co1, .int cf2, .int cg1, .int cb1, .int cn1, .int cn2, .int cr1, .int cr2])), (hs, .inl (cs, 2000, .inr (.inl f)))]) [1, 0] rfl) (hK.sub (tys' := []) [] rfl) (hD.sub (ws' := [(h0, .inr (2, [.ref hs, .ref hi, .ref hm, .int (nI n), .int cf1, .int o, .int ct1, .int ct2, .int co1, .int cf2, .int cg1, .int cb1, .int cn1, .int cn2, .int cr1, .int cr2])), (hs, .inl (cs, 2000, .inr (.inl f)))]) [1, 0] (by decide) rfl) hS (Nat.le_of_ble_eq_true rfl) (Nat.le_of_ble_eq_true rfl) d_Code_faultOfSlot_98
            · refine lv_iconst (v := 2) hx hb d_Code_faultOfSlot_72 (by decide) ?_
              exact fg_reti () hx hb hr hlocks (by unfold fx_Code_faultOfSlot_r; (repeat rw [if_neg c_2]); (repeat rw [if_neg c_4]); (repeat rw [if_neg c_5]); (repeat rw [if_neg c_6]); (repeat rw [if_pos c_28]); first | done | rfl | contradiction) (hP.sub (ws' := [(h0, .inr (2, [.ref hs, .ref hi, .ref hm, .int (nI n), .int cf1, .int o, .int ct1, .int ct2, .int co1, .int cf2, .int cg1, .int cb1, .int cn1, .int cn2, .int cr1, .int cr2])), (hs, .inl (cs, 2000, .inr (.inl f)))]) [0, 1] rfl) (hK.sub (tys' := []) [] rfl) (hD.sub (ws' := [(h0, .inr (2, [.ref hs, .ref hi, .ref hm, .int (nI n), .int cf1, .int o, .int ct1, .int ct2, .int co1, .int cf2, .int cg1, .int cb1, .int cn1, .int cn2, .int cr1, .int cr2])), (hs, .inl (cs, 2000, .inr (.inl f)))]) [0, 1] (by decide) rfl) hS (Nat.le_of_ble_eq_true rfl) (Nat.le_of_ble_eq_true rfl) d_Code_faultOfSlot_73
    refine lv_aload_n hx hb d_Code_faultOfSlot_10 rfl (lv_at hl 0 rfl) ?_
    refine va_get (D := D) (ci := 2) (v := .int cg1) (C := "FilterGuard$Code") (T := F_Code) (N := 16) hx hb hts i_Code hown hK hP 0 rfl rfl 10 (by decide) (hts _ u_252) (fun _ h9 => h9) rfl d_Code_faultOfSlot_11 ?_
    refine lv_iconst (v := 1) hx hb d_Code_faultOfSlot_14 (by decide) ?_
    refine lv_icmp_eq (tgt := 35) hx hb d_Code_faultOfSlot_15 (by decide) (fun c_50 => ?_) (fun c_50 => ?_)
    · refine lv_iconst (v := 1) hx hb d_Code_faultOfSlot_35 (by decide) ?_
      refine lv_goto (tgt := 40) hx hb d_Code_faultOfSlot_36 (by decide) ?_
      exact j10_2 1 _ _ _ (by unfold fx_Code_faultOfSlot_j10; (repeat rw [if_pos c_50]); first | done | rfl | contradiction) (Or.inl rfl) (hP.sub (ws' := [(h0, .inr (2, [.ref hs, .ref hi, .ref hm, .int (nI n), .int cf1, .int o, .int ct1, .int ct2, .int co1, .int cf2, .int cg1, .int cb1, .int cn1, .int cn2, .int cr1, .int cr2])), (hs, .inl (cs, 2000, .inr (.inl f)))]) [0, 1] rfl) (hD.sub (ws' := [(h0, .inr (2, [.ref hs, .ref hi, .ref hm, .int (nI n), .int cf1, .int o, .int ct1, .int ct2, .int co1, .int cf2, .int cg1, .int cb1, .int cn1, .int cn2, .int cr1, .int cr2])), (hs, .inl (cs, 2000, .inr (.inl f)))]) [0, 1] (by decide) rfl) hS (lv_sub hl [0, 1, 2] rfl)
    · refine lv_aload_n hx hb d_Code_faultOfSlot_18 rfl (lv_at hl 0 rfl) ?_
      refine va_get (D := D) (ci := 2) (v := .int cg1) (C := "FilterGuard$Code") (T := F_Code) (N := 16) hx hb hts i_Code hown hK hP 0 rfl rfl 10 (by decide) (hts _ u_252) (fun _ h9 => h9) rfl d_Code_faultOfSlot_19 ?_
      refine lv_iconst (v := 2) hx hb d_Code_faultOfSlot_22 (by decide) ?_
      refine lv_icmp_eq (tgt := 35) hx hb d_Code_faultOfSlot_23 (by decide) (fun c_51 => ?_) (fun c_51 => ?_)
      · refine lv_iconst (v := 1) hx hb d_Code_faultOfSlot_35 (by decide) ?_
        refine lv_goto (tgt := 40) hx hb d_Code_faultOfSlot_36 (by decide) ?_
        exact j10_2 1 _ _ _ (by unfold fx_Code_faultOfSlot_j10; (repeat rw [if_neg c_50]); (repeat rw [if_pos c_51]); first | done | rfl | contradiction) (Or.inl rfl) (hP.sub (ws' := [(h0, .inr (2, [.ref hs, .ref hi, .ref hm, .int (nI n), .int cf1, .int o, .int ct1, .int ct2, .int co1, .int cf2, .int cg1, .int cb1, .int cn1, .int cn2, .int cr1, .int cr2])), (hs, .inl (cs, 2000, .inr (.inl f)))]) [0, 1] rfl) (hD.sub (ws' := [(h0, .inr (2, [.ref hs, .ref hi, .ref hm, .int (nI n), .int cf1, .int o, .int ct1, .int ct2, .int co1, .int cf2, .int cg1, .int cb1, .int cn1, .int cn2, .int cr1, .int cr2])), (hs, .inl (cs, 2000, .inr (.inl f)))]) [0, 1] (by decide) rfl) hS (lv_sub hl [0, 1, 2] rfl)
      · refine lv_aload_n hx hb d_Code_faultOfSlot_26 rfl (lv_at hl 0 rfl) ?_
        refine va_get (D := D) (ci := 2) (v := .int cg1) (C := "FilterGuard$Code") (T := F_Code) (N := 16) hx hb hts i_Code hown hK hP 0 rfl rfl 10 (by decide) (hts _ u_252) (fun _ h9 => h9) rfl d_Code_faultOfSlot_27 ?_
        refine lv_bipush (v := 6) hx hb d_Code_faultOfSlot_30 (by decide) ?_
        refine lv_icmp_ne (tgt := 39) hx hb d_Code_faultOfSlot_32 (by decide) (fun c_52 => ?_) (fun c_52 => ?_)
        · refine lv_iconst (v := 0) hx hb d_Code_faultOfSlot_39 (by decide) ?_
          exact j10_2 0 _ _ _ (by unfold fx_Code_faultOfSlot_j10; (repeat rw [if_neg c_50]); (repeat rw [if_neg c_51]); (repeat rw [if_neg c_52]); first | done | rfl | contradiction) (Or.inr rfl) (hP.sub (ws' := [(h0, .inr (2, [.ref hs, .ref hi, .ref hm, .int (nI n), .int cf1, .int o, .int ct1, .int ct2, .int co1, .int cf2, .int cg1, .int cb1, .int cn1, .int cn2, .int cr1, .int cr2])), (hs, .inl (cs, 2000, .inr (.inl f)))]) [0, 1] rfl) (hD.sub (ws' := [(h0, .inr (2, [.ref hs, .ref hi, .ref hm, .int (nI n), .int cf1, .int o, .int ct1, .int ct2, .int co1, .int cf2, .int cg1, .int cb1, .int cn1, .int cn2, .int cr1, .int cr2])), (hs, .inl (cs, 2000, .inr (.inl f)))]) [0, 1] (by decide) rfl) hS (lv_sub hl [0, 1, 2] rfl)
        · refine lv_iconst (v := 1) hx hb d_Code_faultOfSlot_35 (by decide) ?_
          refine lv_goto (tgt := 40) hx hb d_Code_faultOfSlot_36 (by decide) ?_
          exact j10_2 1 _ _ _ (by unfold fx_Code_faultOfSlot_j10; (repeat rw [if_neg c_50]); (repeat rw [if_neg c_51]); (repeat rw [if_pos c_52]); first | done | rfl | contradiction) (Or.inl rfl) (hP.sub (ws' := [(h0, .inr (2, [.ref hs, .ref hi, .ref hm, .int (nI n), .int cf1, .int o, .int ct1, .int ct2, .int co1, .int cf2, .int cg1, .int cb1, .int cn1, .int cn2, .int cr1, .int cr2])), (hs, .inl (cs, 2000, .inr (.inl f)))]) [0, 1] rfl) (hD.sub (ws' := [(h0, .inr (2, [.ref hs, .ref hi, .ref hm, .int (nI n), .int cf1, .int o, .int ct1, .int ct2, .int co1, .int cf2, .int cg1, .int cb1, .int cn1, .int cn2, .int cr1, .int cr2])), (hs, .inl (cs, 2000, .inr (.inl f)))]) [0, 1] (by decide) rfl) hS (lv_sub hl [0, 1, 2] rfl)
  · refine lv_iconst (v := 1) hx hb d_Code_faultOfSlot_8 (by decide) ?_
    exact fg_reti () hx hb hr hlocks (by unfold fx_Code_faultOfSlot_r; (repeat rw [if_pos c_2]); first | done | rfl | contradiction) (hP.sub (ws' := [(h0, .inr (2, [.ref hs, .ref hi, .ref hm, .int (nI n), .int cf1, .int o, .int ct1, .int ct2, .int co1, .int cf2, .int cg1, .int cb1, .int cn1, .int cn2, .int cr1, .int cr2])), (hs, .inl (cs, 2000, .inr (.inl f)))]) [0, 1] rfl) (hK.sub (tys' := []) [] rfl) (hD.sub (ws' := [(h0, .inr (2, [.ref hs, .ref hi, .ref hm, .int (nI n), .int cf1, .int o, .int ct1, .int ct2, .int co1, .int cf2, .int cg1, .int cb1, .int cn1, .int cn2, .int cr1, .int cr2])), (hs, .inl (cs, 2000, .inr (.inl f)))]) [0, 1] (by decide) rfl) hS (Nat.le_of_ble_eq_true rfl) (Nat.le_of_ble_eq_true rfl) d_Code_faultOfSlot_9
def fx_Code_markTarget_r (n : Nat) (g2 : Nat → Int32) (x1 : Int32) : Int32 := (if x1 < 0 then 0 else (if (nI n) ≤ x1 then 0 else (if (g2 x1.toNatClampNeg) = 0 then 1 else 0)))
def fx_Code_markTarget_hm (n : Nat) (g2 : Nat → Int32) (g3 : Nat → Int32) (x1 : Int32) : Nat → Int32 := (if x1 < 0 then g3 else (if (nI n) ≤ x1 then g3 else (if (g2 x1.toNatClampNeg) = 0 then (upd g3 x1.toNatClampNeg (vp_nar .boolean 1)) else g3)))
def rm_Code_markTarget : Room := { frames := 1, cells := 0, slots := 0, locals := 20 }
abbrev q_Code_markTarget (D : va_G) (h0 : Nat) (hs : Nat) (hi : Nat) (hm : Nat) (n : Nat) (cf1 : Int32) (o : Int32) (ct1 : Int32) (ct2 : Int32) (co1 : Int32) (cf2 : Int32) (cg1 : Int32) (cb1 : Int32) (cn1 : Int32) (cn2 : Int32) (cr1 : Int32) (cr2 : Int32) (c2 : ClassId) (g2 : Nat → Int32) (c3 : ClassId) (g3 : Nat → Int32) (x1 : Int32) (A : Nat → Prop) : Array Value → Jvm.State → Outcome → Jvm.State → Prop := va_Qi (fun (r : Int32) (z_hm : Nat → Int32) => r = (fx_Code_markTarget_r n g2 x1) ∧ z_hm = (fx_Code_markTarget_hm n g2 g3 x1) ∧ (r = 1 ∨ r = 0)) (fg_B D A (fun (z_hm : Nat → Int32) => [(h0, .inr (2, [.ref hs, .ref hi, .ref hm, .int (nI n), .int cf1, .int o, .int ct1, .int ct2, .int co1, .int cf2, .int cg1, .int cb1, .int cn1, .int cn2, .int cr1, .int cr2])), (hi, .inl (c2, 2000, .inl g2)), (hm, .inl (c3, 2000, .inl z_hm))]) (fun (z_hm : Nat → Int32) => [])) A
set_option maxHeartbeats 4000000 in
set_option maxRecDepth 100000 in
theorem c_Code_markTarget (l : Launch) (D : va_G) (h0 : Nat) (hs : Nat) (hi : Nat) (hm : Nat) (n : Nat) (cf1 : Int32) (o : Int32) (ct1 : Int32) (ct2 : Int32) (co1 : Int32) (cf2 : Int32) (cg1 : Int32) (cb1 : Int32) (cn1 : Int32) (cn2 : Int32) (cr1 : Int32) (cr2 : Int32) (c2 : ClassId) (g2 : Nat → Int32) (c3 : ClassId) (g3 : Nat → Int32) (x1 : Int32) (sz : Nat) (hn : n ≤ 2000) : Met l y_Code_markTarget (fg_w y_Code_markTarget prog_4_method_15_code 2 (some .boolean)) rm_Code_markTarget (va_Pc [.ref h0, .int x1] (fg_P D [(c2, .boolean), (c3, .boolean)] [(h0, .inr (2, [.ref hs, .ref hi, .ref hm, .int (nI n), .int cf1, .int o, .int ct1, .int ct2, .int co1, .int cf2, .int cg1, .int cb1, .int cn1, .int cn2, .int cr1, .int cr2])), (hi, .inl (c2, 2000, .inl g2)), (hm, .inl (c3, 2000, .inl g3))] sz)) (q_Code_markTarget D h0 hs hi hm n cf1 o ct1 ct2 co1 cf2 cg1 cb1 cn1 cn2 cr1 cr2 c2 g2 c3 g3 x1 (va_A [(h0, .inr (2, [.ref hs, .ref hi, .ref hm, .int (nI n), .int cf1, .int o, .int ct1, .int ct2, .int co1, .int cf2, .int cg1, .int cb1, .int cn1, .int cn2, .int cr1, .int cr2])), (hi, .inl (c2, 2000, .inl g2)), (hm, .inl (c3, 2000, .inl g3))] sz)) rm_Code_markTarget.cells rm_Code_markTarget.slots (va_A [(h0, .inr (2, [.ref hs, .ref hi, .ref hm, .int (nI n), .int cf1, .int o, .int ct1, .int ct2, .int co1, .int cf2, .int cg1, .int cb1, .int cn1, .int cn2, .int cr1, .int cr2])), (hi, .inl (c2, 2000, .inl g2)), (hm, .inl (c3, 2000, .inl g3))] sz) := by
  refine fg_enter (fun A => q_Code_markTarget D h0 hs hi hm n cf1 o ct1 ct2 co1 cf2 cg1 cb1 cn1 cn2 cr1 cr2 c2 g2 c3 g3 x1 A) (by decide +kernel) (Nat.le_of_ble_eq_true rfl) ?_
  intro p e s m below meth c ls A hx hb hml hown hts hr hlocks hin hP hK hD hS hA hX hl
  have hl : lv_has ls 2 [(0, .ref h0), (1, .int x1)] := hl
  refine lv_iload_n hx hb d_Code_markTarget_0 rfl (lv_at hl 1 rfl) ?_
  refine lv_if_lt (tgt := 21) hx hb d_Code_markTarget_1 (by decide) (fun c_1 => ?_) (fun c_1 => ?_)
  · refine lv_iconst (v := 0) hx hb d_Code_markTarget_21 (by decide) ?_
    exact fg_retz (g3) hx hb hr hlocks rfl ⟨(by unfold fx_Code_markTarget_r; (repeat rw [if_pos c_1]); first | done | rfl | contradiction), (by unfold fx_Code_markTarget_hm; (repeat rw [if_pos c_1]); first | done | rfl | contradiction), (Or.inr rfl)⟩ (hP.sub (ws' := [(h0, .inr (2, [.ref hs, .ref hi, .ref hm, .int (nI n), .int cf1, .int o, .int ct1, .int ct2, .int co1, .int cf2, .int cg1, .int cb1, .int cn1, .int cn2, .int cr1, .int cr2])), (hi, .inl (c2, 2000, .inl g2)), (hm, .inl (c3, 2000, .inl g3))]) [0, 1, 2] rfl) (hK.sub (tys' := []) [] rfl) (hD.sub (ws' := [(h0, .inr (2, [.ref hs, .ref hi, .ref hm, .int (nI n), .int cf1, .int o, .int ct1, .int ct2, .int co1, .int cf2, .int cg1, .int cb1, .int cn1, .int cn2, .int cr1, .int cr2])), (hi, .inl (c2, 2000, .inl g2)), (hm, .inl (c3, 2000, .inl g3))]) [0, 1, 2] (by decide) rfl) hS (Nat.le_of_ble_eq_true rfl) (Nat.le_of_ble_eq_true rfl) d_Code_markTarget_22
  · refine lv_iload_n hx hb d_Code_markTarget_4 rfl (lv_at hl 1 rfl) ?_
    refine lv_aload_n hx hb d_Code_markTarget_5 rfl (lv_at hl 0 rfl) ?_
    refine va_get (D := D) (ci := 2) (v := .int (nI n)) (C := "FilterGuard$Code") (T := F_Code) (N := 16) hx hb hts i_Code hown hK hP 0 rfl rfl 3 (by decide) (hts _ u_226) (fun _ h9 => h9) rfl d_Code_markTarget_6 ?_
    refine lv_icmp_ge (tgt := 21) hx hb d_Code_markTarget_9 (by decide) (fun c_2 => ?_) (fun c_2 => ?_)
    · refine lv_iconst (v := 0) hx hb d_Code_markTarget_21 (by decide) ?_
      exact fg_retz (g3) hx hb hr hlocks rfl ⟨(by unfold fx_Code_markTarget_r; (repeat rw [if_neg c_1]); (repeat rw [if_pos c_2]); first | done | rfl | contradiction), (by unfold fx_Code_markTarget_hm; (repeat rw [if_neg c_1]); (repeat rw [if_pos c_2]); first | done | rfl | contradiction), (Or.inr rfl)⟩ (hP.sub (ws' := [(h0, .inr (2, [.ref hs, .ref hi, .ref hm, .int (nI n), .int cf1, .int o, .int ct1, .int ct2, .int co1, .int cf2, .int cg1, .int cb1, .int cn1, .int cn2, .int cr1, .int cr2])), (hi, .inl (c2, 2000, .inl g2)), (hm, .inl (c3, 2000, .inl g3))]) [0, 1, 2] rfl) (hK.sub (tys' := []) [] rfl) (hD.sub (ws' := [(h0, .inr (2, [.ref hs, .ref hi, .ref hm, .int (nI n), .int cf1, .int o, .int ct1, .int ct2, .int co1, .int cf2, .int cg1, .int cb1, .int cn1, .int cn2, .int cr1, .int cr2])), (hi, .inl (c2, 2000, .inl g2)), (hm, .inl (c3, 2000, .inl g3))]) [0, 1, 2] (by decide) rfl) hS (Nat.le_of_ble_eq_true rfl) (Nat.le_of_ble_eq_true rfl) d_Code_markTarget_22
    · refine lv_aload_n hx hb d_Code_markTarget_12 rfl (lv_at hl 0 rfl) ?_
      refine va_get (D := D) (ci := 2) (v := .ref hi) (C := "FilterGuard$Code") (T := F_Code) (N := 16) hx hb hts i_Code hown hK hP 0 rfl rfl 1 (by decide) (hts _ u_223) (fun _ h9 => h9) rfl d_Code_markTarget_13 ?_
      refine lv_iload_n hx hb d_Code_markTarget_16 rfl (lv_at hl 1 rfl) ?_
      refine va_zald hx hb hK hP 1 0 rfl rfl (fd_in c_1 c_2 hn (by decide)) d_Code_markTarget_17 ?_
      refine lv_if_eq (tgt := 23) hx hb d_Code_markTarget_18 (by decide) (fun c_3 => ?_) (fun c_3 => ?_)
      · refine lv_aload_n hx hb d_Code_markTarget_23 rfl (lv_at hl 0 rfl) ?_
        refine va_get (D := D) (ci := 2) (v := .ref hm) (C := "FilterGuard$Code") (T := F_Code) (N := 16) hx hb hts i_Code hown hK hP 0 rfl rfl 2 (by decide) (hts _ u_225) (fun _ h9 => h9) rfl d_Code_markTarget_24 ?_
        refine lv_iload_n hx hb d_Code_markTarget_27 rfl (lv_at hl 1 rfl) ?_
        refine lv_iconst (v := 1) hx hb d_Code_markTarget_28 (by decide) ?_
        refine va_zast hx hb hK hP hD hS 2 1 rfl rfl (fd_in c_1 c_2 hn (by decide)) d_Code_markTarget_29 (fun H locs hP hD hS => ?_)
        have hP : va_P D classes [(h0, .inr (2, [.ref hs, .ref hi, .ref hm, .int (nI n), .int cf1, .int o, .int ct1, .int ct2, .int co1, .int cf2, .int cg1, .int cb1, .int cn1, .int cn2, .int cr1, .int cr2])), (hi, .inl (c2, 2000, .inl g2)), (hm, .inl (c3, 2000, .inl (upd g3 x1.toNatClampNeg (vp_nar .boolean 1))))] H := hP
        have hD : va_D A [(h0, .inr (2, [.ref hs, .ref hi, .ref hm, .int (nI n), .int cf1, .int o, .int ct1, .int ct2, .int co1, .int cf2, .int cg1, .int cb1, .int cn1, .int cn2, .int cr1, .int cr2])), (hi, .inl (c2, 2000, .inl g2)), (hm, .inl (c3, 2000, .inl (upd g3 x1.toNatClampNeg (vp_nar .boolean 1))))] := hD
        refine lv_iconst (v := 1) hx hb d_Code_markTarget_30 (by decide) ?_
        exact fg_retz (upd g3 x1.toNatClampNeg (vp_nar .boolean 1)) hx hb hr hlocks rfl ⟨(by unfold fx_Code_markTarget_r; (repeat rw [if_neg c_1]); (repeat rw [if_neg c_2]); (repeat rw [if_pos c_3]); first | done | rfl | contradiction), (by unfold fx_Code_markTarget_hm; (repeat rw [if_neg c_1]); (repeat rw [if_neg c_2]); (repeat rw [if_pos c_3]); first | done | rfl | contradiction), (Or.inl rfl)⟩ (hP.sub (ws' := [(h0, .inr (2, [.ref hs, .ref hi, .ref hm, .int (nI n), .int cf1, .int o, .int ct1, .int ct2, .int co1, .int cf2, .int cg1, .int cb1, .int cn1, .int cn2, .int cr1, .int cr2])), (hi, .inl (c2, 2000, .inl g2)), (hm, .inl (c3, 2000, .inl (upd g3 x1.toNatClampNeg (vp_nar .boolean 1))))]) [0, 1, 2] rfl) (hK.sub (tys' := []) [] rfl) (hD.sub (ws' := [(h0, .inr (2, [.ref hs, .ref hi, .ref hm, .int (nI n), .int cf1, .int o, .int ct1, .int ct2, .int co1, .int cf2, .int cg1, .int cb1, .int cn1, .int cn2, .int cr1, .int cr2])), (hi, .inl (c2, 2000, .inl g2)), (hm, .inl (c3, 2000, .inl (upd g3 x1.toNatClampNeg (vp_nar .boolean 1))))]) [0, 1, 2] (by decide) rfl) hS (Nat.le_of_ble_eq_true rfl) (Nat.le_of_ble_eq_true rfl) d_Code_markTarget_31
      · refine lv_iconst (v := 0) hx hb d_Code_markTarget_21 (by decide) ?_
        exact fg_retz (g3) hx hb hr hlocks rfl ⟨(by unfold fx_Code_markTarget_r; (repeat rw [if_neg c_1]); (repeat rw [if_neg c_2]); (repeat rw [if_neg c_3]); first | done | rfl | contradiction), (by unfold fx_Code_markTarget_hm; (repeat rw [if_neg c_1]); (repeat rw [if_neg c_2]); (repeat rw [if_neg c_3]); first | done | rfl | contradiction), (Or.inr rfl)⟩ (hP.sub (ws' := [(h0, .inr (2, [.ref hs, .ref hi, .ref hm, .int (nI n), .int cf1, .int o, .int ct1, .int ct2, .int co1, .int cf2, .int cg1, .int cb1, .int cn1, .int cn2, .int cr1, .int cr2])), (hi, .inl (c2, 2000, .inl g2)), (hm, .inl (c3, 2000, .inl g3))]) [0, 1, 2] rfl) (hK.sub (tys' := []) [] rfl) (hD.sub (ws' := [(h0, .inr (2, [.ref hs, .ref hi, .ref hm, .int (nI n), .int cf1, .int o, .int ct1, .int ct2, .int co1, .int cf2, .int cg1, .int cb1, .int cn1, .int cn2, .int cr1, .int cr2])), (hi, .inl (c2, 2000, .inl g2)), (hm, .inl (c3, 2000, .inl g3))]) [0, 1, 2] (by decide) rfl) hS (Nat.le_of_ble_eq_true rfl) (Nat.le_of_ble_eq_true rfl) d_Code_markTarget_22
