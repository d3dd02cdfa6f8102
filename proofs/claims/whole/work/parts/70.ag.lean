theorem d_M_does1_249 : decode prog_14_method_31_code 249 = .ok (.aload_n 0, 1) := by decide +kernel
theorem d_M_does1_250 : decode prog_14_method_31_code 250 = .ok (.sipush 30077, 3) := by decide +kernel
theorem d_M_does1_253 : decode prog_14_method_31_code 253 = .ok (.invokevirtual 264, 3) := by decide +kernel
theorem u_2143 : Cond.methodLink "FilterGuardModel" 264 ⟨"FilterGuardModel", "settle", "(I)Z"⟩ ∈ fg_g := fg_in (List.mem_of_getElem? (i := 2143) (by decide +kernel)) rfl
theorem u_2146 : Cond.code ⟨"FilterGuardModel", "settle", "(I)Z"⟩ prog_14_method_17_code 4 (some .boolean) ∈ fg_g := fg_in (List.mem_of_getElem? (i := 2146) (by decide +kernel)) rfl
theorem u_2145 : Cond.instanceMethod ⟨"FilterGuardModel", "settle", "(I)Z"⟩ ∈ fg_g := fg_in (List.mem_of_getElem? (i := 2145) (by decide +kernel)) rfl
theorem u_113 : Cond.selects "FilterGuardModel" ⟨"FilterGuardModel", "settle", "(I)Z"⟩ ⟨"FilterGuardModel", "settle", "(I)Z"⟩ ∈ fg_g := fg_in (List.mem_of_getElem? (i := 113) (by decide +kernel)) rfl
theorem d_M_does1_256 : decode prog_14_method_31_code 256 = .ok (.ifCond .ne 10, 3) := by decide +kernel
theorem d_M_does1_266 : decode prog_14_method_31_code 266 = .ok (.return_, 1) := by decide +kernel
theorem d_M_does1_259 : decode prog_14_method_31_code 259 = .ok (.aload_n 0, 1) := by decide +kernel
theorem d_M_does1_260 : decode prog_14_method_31_code 260 = .ok (.sipush 30077, 3) := by decide +kernel
theorem d_M_does1_263 : decode prog_14_method_31_code 263 = .ok (.invokevirtual 228, 3) := by decide +kernel
theorem u_2138 : Cond.methodLink "FilterGuardModel" 228 ⟨"FilterGuardModel", "setAny", "(I)V"⟩ ∈ fg_g := fg_in (List.mem_of_getElem? (i := 2138) (by decide +kernel)) rfl
theorem u_2141 : Cond.code ⟨"FilterGuardModel", "setAny", "(I)V"⟩ prog_14_method_8_code 2 none ∈ fg_g := fg_in (List.mem_of_getElem? (i := 2141) (by decide +kernel)) rfl
theorem u_2140 : Cond.instanceMethod ⟨"FilterGuardModel", "setAny", "(I)V"⟩ ∈ fg_g := fg_in (List.mem_of_getElem? (i := 2140) (by decide +kernel)) rfl
theorem u_112 : Cond.selects "FilterGuardModel" ⟨"FilterGuardModel", "setAny", "(I)V"⟩ ⟨"FilterGuardModel", "setAny", "(I)V"⟩ ∈ fg_g := fg_in (List.mem_of_getElem? (i := 112) (by decide +kernel)) rfl
theorem d_M_does1_244 : decode prog_14_method_31_code 244 = .ok (.land, 1) := by decide +kernel
theorem d_M_does1_245 : decode prog_14_method_31_code 245 = .ok (.l2i, 1) := by decide +kernel
theorem d_M_does1_246 : decode prog_14_method_31_code 246 = .ok (.invokevirtual 261, 3) := by decide +kernel
theorem u_2376 : Cond.methodLink "FilterGuardModel" 261 ⟨"FilterGuardModel", "shift", "(II)V"⟩ ∈ fg_g := fg_in (List.mem_of_getElem? (i := 2376) (by decide +kernel)) rfl
theorem u_2379 : Cond.code ⟨"FilterGuardModel", "shift", "(II)V"⟩ prog_14_method_26_code 3 none ∈ fg_g := fg_in (List.mem_of_getElem? (i := 2379) (by decide +kernel)) rfl
theorem u_2378 : Cond.instanceMethod ⟨"FilterGuardModel", "shift", "(II)V"⟩ ∈ fg_g := fg_in (List.mem_of_getElem? (i := 2378) (by decide +kernel)) rfl
theorem u_163 : Cond.selects "FilterGuardModel" ⟨"FilterGuardModel", "shift", "(II)V"⟩ ⟨"FilterGuardModel", "shift", "(II)V"⟩ ∈ fg_g := fg_in (List.mem_of_getElem? (i := 163) (by decide +kernel)) rfl
theorem d_M_does1_223 : decode prog_14_method_31_code 223 = .ok (.aload_n 0, 1) := by decide +kernel
theorem d_M_does1_224 : decode prog_14_method_31_code 224 = .ok (.getfield 104, 3) := by decide +kernel
theorem d_M_does1_227 : decode prog_14_method_31_code 227 = .ok (.sipush 30076, 3) := by decide +kernel
theorem d_M_does1_230 : decode prog_14_method_31_code 230 = .ok (.laload, 1) := by decide +kernel
theorem d_M_does1_231 : decode prog_14_method_31_code 231 = .ok (.iload_n 2, 1) := by decide +kernel
theorem d_M_does1_232 : decode prog_14_method_31_code 232 = .ok (.ifCond .eq 9, 3) := by decide +kernel
theorem d_M_does1_241 : decode prog_14_method_31_code 241 = .ok (.ldc2_w 259, 3) := by decide +kernel
theorem u_2030 : Cond.constantLong "FilterGuardModel" 259 63 ∈ fg_g := fg_in (List.mem_of_getElem? (i := 2030) (by decide +kernel)) rfl
theorem d_M_does1_235 : decode prog_14_method_31_code 235 = .ok (.ldc2_w 257, 3) := by decide +kernel
theorem u_2029 : Cond.constantLong "FilterGuardModel" 257 31 ∈ fg_g := fg_in (List.mem_of_getElem? (i := 2029) (by decide +kernel)) rfl
theorem d_M_does1_238 : decode prog_14_method_31_code 238 = .ok (.goto 6, 3) := by decide +kernel
theorem d_M_does1_222 : decode prog_14_method_31_code 222 = .ok (.iload_n 1, 1) := by decide +kernel
theorem d_M_does1_206 : decode prog_14_method_31_code 206 = .ok (.aload_n 0, 1) := by decide +kernel
theorem d_M_does1_207 : decode prog_14_method_31_code 207 = .ok (.iload_n 2, 1) := by decide +kernel
theorem d_M_does1_208 : decode prog_14_method_31_code 208 = .ok (.ifCond .eq 14, 3) := by decide +kernel
theorem d_M_does1_211 : decode prog_14_method_31_code 211 = .ok (.iload_n 1, 1) := by decide +kernel
theorem d_M_does1_212 : decode prog_14_method_31_code 212 = .ok (.bipush 10, 2) := by decide +kernel
theorem d_M_does1_214 : decode prog_14_method_31_code 214 = .ok (.if_icmp .ne 8, 3) := by decide +kernel
theorem d_M_does1_217 : decode prog_14_method_31_code 217 = .ok (.bipush 9, 2) := by decide +kernel
theorem d_M_does1_219 : decode prog_14_method_31_code 219 = .ok (.goto 4, 3) := by decide +kernel
theorem d_M_does1_53 : decode prog_14_method_31_code 53 = .ok (.aload_n 0, 1) := by decide +kernel
theorem d_M_does1_54 : decode prog_14_method_31_code 54 = .ok (.invokevirtual 234, 3) := by decide +kernel
theorem u_2332 : Cond.methodLink "FilterGuardModel" 234 ⟨"FilterGuardModel", "subtract", "()V"⟩ ∈ fg_g := fg_in (List.mem_of_getElem? (i := 2332) (by decide +kernel)) rfl
theorem u_2335 : Cond.code ⟨"FilterGuardModel", "subtract", "()V"⟩ prog_14_method_19_code 10 none ∈ fg_g := fg_in (List.mem_of_getElem? (i := 2335) (by decide +kernel)) rfl
theorem u_2334 : Cond.instanceMethod ⟨"FilterGuardModel", "subtract", "()V"⟩ ∈ fg_g := fg_in (List.mem_of_getElem? (i := 2334) (by decide +kernel)) rfl
theorem u_154 : Cond.selects "FilterGuardModel" ⟨"FilterGuardModel", "subtract", "()V"⟩ ⟨"FilterGuardModel", "subtract", "()V"⟩ ∈ fg_g := fg_in (List.mem_of_getElem? (i := 154) (by decide +kernel)) rfl
theorem d_M_does1_57 : decode prog_14_method_31_code 57 = .ok (.goto 192, 3) := by decide +kernel
theorem d_M_does1_31 : decode prog_14_method_31_code 31 = .ok (.iload_n 1, 1) := by decide +kernel
theorem d_M_does1_32 : decode prog_14_method_31_code 32 = .ok (.ifCond .ne 10, 3) := by decide +kernel
theorem d_M_does1_42 : decode prog_14_method_31_code 42 = .ok (.iload_n 1, 1) := by decide +kernel
theorem d_M_does1_43 : decode prog_14_method_31_code 43 = .ok (.iconst 1, 1) := by decide +kernel
theorem d_M_does1_44 : decode prog_14_method_31_code 44 = .ok (.if_icmp .eq 9, 3) := by decide +kernel
theorem d_M_does1_47 : decode prog_14_method_31_code 47 = .ok (.iload_n 1, 1) := by decide +kernel
theorem d_M_does1_48 : decode prog_14_method_31_code 48 = .ok (.bipush 11, 2) := by decide +kernel
theorem d_M_does1_50 : decode prog_14_method_31_code 50 = .ok (.if_icmp .ne 10, 3) := by decide +kernel
theorem d_M_does1_60 : decode prog_14_method_31_code 60 = .ok (.iload_n 1, 1) := by decide +kernel
theorem d_M_does1_61 : decode prog_14_method_31_code 61 = .ok (.iconst 2, 1) := by decide +kernel
theorem d_M_does1_62 : decode prog_14_method_31_code 62 = .ok (.if_icmp .ne 10, 3) := by decide +kernel
theorem d_M_does1_72 : decode prog_14_method_31_code 72 = .ok (.iload_n 1, 1) := by decide +kernel
theorem d_M_does1_73 : decode prog_14_method_31_code 73 = .ok (.iconst 3, 1) := by decide +kernel
theorem d_M_does1_74 : decode prog_14_method_31_code 74 = .ok (.if_icmp .ne 10, 3) := by decide +kernel
theorem d_M_does1_84 : decode prog_14_method_31_code 84 = .ok (.iload_n 1, 1) := by decide +kernel
theorem d_M_does1_85 : decode prog_14_method_31_code 85 = .ok (.iconst 4, 1) := by decide +kernel
theorem d_M_does1_86 : decode prog_14_method_31_code 86 = .ok (.if_icmp .ne 10, 3) := by decide +kernel
theorem d_M_does1_96 : decode prog_14_method_31_code 96 = .ok (.iload_n 1, 1) := by decide +kernel
theorem d_M_does1_97 : decode prog_14_method_31_code 97 = .ok (.bipush 8, 2) := by decide +kernel
theorem d_M_does1_99 : decode prog_14_method_31_code 99 = .ok (.if_icmp .ge 11, 3) := by decide +kernel
theorem d_M_does1_110 : decode prog_14_method_31_code 110 = .ok (.iload_n 1, 1) := by decide +kernel
theorem d_M_does1_111 : decode prog_14_method_31_code 111 = .ok (.bipush 12, 2) := by decide +kernel
theorem d_M_does1_113 : decode prog_14_method_31_code 113 = .ok (.if_icmp .ne 16, 3) := by decide +kernel
theorem d_M_does1_129 : decode prog_14_method_31_code 129 = .ok (.iload_n 1, 1) := by decide +kernel
theorem d_M_does1_130 : decode prog_14_method_31_code 130 = .ok (.bipush 13, 2) := by decide +kernel
theorem d_M_does1_132 : decode prog_14_method_31_code 132 = .ok (.if_icmp .ne 17, 3) := by decide +kernel
theorem d_M_does1_149 : decode prog_14_method_31_code 149 = .ok (.iload_n 1, 1) := by decide +kernel
theorem d_M_does1_150 : decode prog_14_method_31_code 150 = .ok (.bipush 14, 2) := by decide +kernel
theorem d_M_does1_152 : decode prog_14_method_31_code 152 = .ok (.if_icmp .ne 17, 3) := by decide +kernel
theorem d_M_does1_169 : decode prog_14_method_31_code 169 = .ok (.aload_n 0, 1) := by decide +kernel
theorem d_M_does1_170 : decode prog_14_method_31_code 170 = .ok (.sipush 30076, 3) := by decide +kernel
theorem d_M_does1_173 : decode prog_14_method_31_code 173 = .ok (.invokevirtual 192, 3) := by decide +kernel
theorem d_M_does1_176 : decode prog_14_method_31_code 176 = .ok (.ifCond .eq 73, 3) := by decide +kernel
theorem d_M_does1_179 : decode prog_14_method_31_code 179 = .ok (.iload_n 2, 1) := by decide +kernel
theorem d_M_does1_180 : decode prog_14_method_31_code 180 = .ok (.ifCond .eq 26, 3) := by decide +kernel
theorem d_M_does1_183 : decode prog_14_method_31_code 183 = .ok (.iload_n 1, 1) := by decide +kernel
theorem d_M_does1_184 : decode prog_14_method_31_code 184 = .ok (.bipush 10, 2) := by decide +kernel
theorem d_M_does1_186 : decode prog_14_method_31_code 186 = .ok (.if_icmp .ne 20, 3) := by decide +kernel
theorem d_M_does1_189 : decode prog_14_method_31_code 189 = .ok (.aload_n 0, 1) := by decide +kernel
theorem d_M_does1_190 : decode prog_14_method_31_code 190 = .ok (.getfield 113, 3) := by decide +kernel
theorem d_M_does1_193 : decode prog_14_method_31_code 193 = .ok (.sipush 30075, 3) := by decide +kernel
theorem d_M_does1_196 : decode prog_14_method_31_code 196 = .ok (.laload, 1) := by decide +kernel
theorem d_M_does1_197 : decode prog_14_method_31_code 197 = .ok (.ldc2_w 255, 3) := by decide +kernel
theorem u_2375 : Cond.constantLong "FilterGuardModel" 255 2147483648 ∈ fg_g := fg_in (List.mem_of_getElem? (i := 2375) (by decide +kernel)) rfl
theorem d_M_does1_200 : decode prog_14_method_31_code 200 = .ok (.invokestatic 158, 3) := by decide +kernel
theorem d_M_does1_203 : decode prog_14_method_31_code 203 = .ok (.ifCond .eq 46, 3) := by decide +kernel
theorem d_M_does1_155 : decode prog_14_method_31_code 155 = .ok (.aload_n 0, 1) := by decide +kernel
theorem d_M_does1_156 : decode prog_14_method_31_code 156 = .ok (.aload_n 0, 1) := by decide +kernel
theorem d_M_does1_157 : decode prog_14_method_31_code 157 = .ok (.sipush 30076, 3) := by decide +kernel
theorem d_M_does1_160 : decode prog_14_method_31_code 160 = .ok (.invokevirtual 246, 3) := by decide +kernel
theorem u_2359 : Cond.methodLink "FilterGuardModel" 246 ⟨"FilterGuardModel", "bytesOf", "(I)I"⟩ ∈ fg_g := fg_in (List.mem_of_getElem? (i := 2359) (by decide +kernel)) rfl
theorem u_2362 : Cond.code ⟨"FilterGuardModel", "bytesOf", "(I)I"⟩ prog_14_method_27_code 2 (some .int) ∈ fg_g := fg_in (List.mem_of_getElem? (i := 2362) (by decide +kernel)) rfl
theorem u_2361 : Cond.instanceMethod ⟨"FilterGuardModel", "bytesOf", "(I)I"⟩ ∈ fg_g := fg_in (List.mem_of_getElem? (i := 2361) (by decide +kernel)) rfl
theorem u_160 : Cond.selects "FilterGuardModel" ⟨"FilterGuardModel", "bytesOf", "(I)I"⟩ ⟨"FilterGuardModel", "bytesOf", "(I)I"⟩ ∈ fg_g := fg_in (List.mem_of_getElem? (i := 160) (by decide +kernel)) rfl
theorem d_M_does1_163 : decode prog_14_method_31_code 163 = .ok (.invokevirtual 252, 3) := by decide +kernel
theorem u_2371 : Cond.methodLink "FilterGuardModel" 252 ⟨"FilterGuardModel", "cut", "(I)V"⟩ ∈ fg_g := fg_in (List.mem_of_getElem? (i := 2371) (by decide +kernel)) rfl
theorem u_2374 : Cond.code ⟨"FilterGuardModel", "cut", "(I)V"⟩ prog_14_method_30_code 2 none ∈ fg_g := fg_in (List.mem_of_getElem? (i := 2374) (by decide +kernel)) rfl
theorem u_2373 : Cond.instanceMethod ⟨"FilterGuardModel", "cut", "(I)V"⟩ ∈ fg_g := fg_in (List.mem_of_getElem? (i := 2373) (by decide +kernel)) rfl
theorem u_162 : Cond.selects "FilterGuardModel" ⟨"FilterGuardModel", "cut", "(I)V"⟩ ⟨"FilterGuardModel", "cut", "(I)V"⟩ ∈ fg_g := fg_in (List.mem_of_getElem? (i := 162) (by decide +kernel)) rfl
theorem d_M_does1_166 : decode prog_14_method_31_code 166 = .ok (.goto 83, 3) := by decide +kernel
theorem d_M_does1_135 : decode prog_14_method_31_code 135 = .ok (.aload_n 0, 1) := by decide +kernel
theorem d_M_does1_136 : decode prog_14_method_31_code 136 = .ok (.aload_n 0, 1) := by decide +kernel
theorem d_M_does1_137 : decode prog_14_method_31_code 137 = .ok (.sipush 30076, 3) := by decide +kernel
theorem d_M_does1_140 : decode prog_14_method_31_code 140 = .ok (.invokevirtual 246, 3) := by decide +kernel
theorem d_M_does1_143 : decode prog_14_method_31_code 143 = .ok (.invokevirtual 249, 3) := by decide +kernel
theorem u_2363 : Cond.methodLink "FilterGuardModel" 249 ⟨"FilterGuardModel", "swap", "(I)V"⟩ ∈ fg_g := fg_in (List.mem_of_getElem? (i := 2363) (by decide +kernel)) rfl
theorem u_2366 : Cond.code ⟨"FilterGuardModel", "swap", "(I)V"⟩ prog_14_method_29_code 5 none ∈ fg_g := fg_in (List.mem_of_getElem? (i := 2366) (by decide +kernel)) rfl
theorem u_2365 : Cond.instanceMethod ⟨"FilterGuardModel", "swap", "(I)V"⟩ ∈ fg_g := fg_in (List.mem_of_getElem? (i := 2365) (by decide +kernel)) rfl
theorem u_161 : Cond.selects "FilterGuardModel" ⟨"FilterGuardModel", "swap", "(I)V"⟩ ⟨"FilterGuardModel", "swap", "(I)V"⟩ ∈ fg_g := fg_in (List.mem_of_getElem? (i := 161) (by decide +kernel)) rfl
theorem d_M_does1_146 : decode prog_14_method_31_code 146 = .ok (.goto 103, 3) := by decide +kernel
theorem d_M_does1_116 : decode prog_14_method_31_code 116 = .ok (.aload_n 0, 1) := by decide +kernel
theorem d_M_does1_117 : decode prog_14_method_31_code 117 = .ok (.sipush 30076, 3) := by decide +kernel
theorem d_M_does1_120 : decode prog_14_method_31_code 120 = .ok (.sipush 30077, 3) := by decide +kernel
theorem d_M_does1_123 : decode prog_14_method_31_code 123 = .ok (.invokevirtual 208, 3) := by decide +kernel
theorem d_M_does1_126 : decode prog_14_method_31_code 126 = .ok (.goto 123, 3) := by decide +kernel
theorem d_M_does1_102 : decode prog_14_method_31_code 102 = .ok (.aload_n 0, 1) := by decide +kernel
theorem d_M_does1_103 : decode prog_14_method_31_code 103 = .ok (.iload_n 1, 1) := by decide +kernel
theorem d_M_does1_104 : decode prog_14_method_31_code 104 = .ok (.invokevirtual 224, 3) := by decide +kernel
theorem d_M_does1_107 : decode prog_14_method_31_code 107 = .ok (.goto 142, 3) := by decide +kernel
theorem d_M_does1_89 : decode prog_14_method_31_code 89 = .ok (.aload_n 0, 1) := by decide +kernel
theorem d_M_does1_90 : decode prog_14_method_31_code 90 = .ok (.invokevirtual 243, 3) := by decide +kernel
theorem u_2351 : Cond.methodLink "FilterGuardModel" 243 ⟨"FilterGuardModel", "rest", "()V"⟩ ∈ fg_g := fg_in (List.mem_of_getElem? (i := 2351) (by decide +kernel)) rfl
theorem u_2354 : Cond.code ⟨"FilterGuardModel", "rest", "()V"⟩ prog_14_method_24_code 2 none ∈ fg_g := fg_in (List.mem_of_getElem? (i := 2354) (by decide +kernel)) rfl
theorem u_2353 : Cond.instanceMethod ⟨"FilterGuardModel", "rest", "()V"⟩ ∈ fg_g := fg_in (List.mem_of_getElem? (i := 2353) (by decide +kernel)) rfl
theorem u_158 : Cond.selects "FilterGuardModel" ⟨"FilterGuardModel", "rest", "()V"⟩ ⟨"FilterGuardModel", "rest", "()V"⟩ ∈ fg_g := fg_in (List.mem_of_getElem? (i := 158) (by decide +kernel)) rfl
theorem d_M_does1_93 : decode prog_14_method_31_code 93 = .ok (.goto 156, 3) := by decide +kernel
theorem d_M_does1_77 : decode prog_14_method_31_code 77 = .ok (.aload_n 0, 1) := by decide +kernel
theorem d_M_does1_78 : decode prog_14_method_31_code 78 = .ok (.invokevirtual 240, 3) := by decide +kernel
theorem u_2344 : Cond.methodLink "FilterGuardModel" 240 ⟨"FilterGuardModel", "divide", "()V"⟩ ∈ fg_g := fg_in (List.mem_of_getElem? (i := 2344) (by decide +kernel)) rfl
theorem u_2347 : Cond.code ⟨"FilterGuardModel", "divide", "()V"⟩ prog_14_method_23_code 1 none ∈ fg_g := fg_in (List.mem_of_getElem? (i := 2347) (by decide +kernel)) rfl
theorem u_2346 : Cond.instanceMethod ⟨"FilterGuardModel", "divide", "()V"⟩ ∈ fg_g := fg_in (List.mem_of_getElem? (i := 2346) (by decide +kernel)) rfl
theorem u_157 : Cond.selects "FilterGuardModel" ⟨"FilterGuardModel", "divide", "()V"⟩ ⟨"FilterGuardModel", "divide", "()V"⟩ ∈ fg_g := fg_in (List.mem_of_getElem? (i := 157) (by decide +kernel)) rfl
theorem d_M_does1_81 : decode prog_14_method_31_code 81 = .ok (.goto 168, 3) := by decide +kernel
theorem d_M_does1_65 : decode prog_14_method_31_code 65 = .ok (.aload_n 0, 1) := by decide +kernel
theorem d_M_does1_66 : decode prog_14_method_31_code 66 = .ok (.invokevirtual 237, 3) := by decide +kernel
theorem u_2336 : Cond.methodLink "FilterGuardModel" 237 ⟨"FilterGuardModel", "multiply", "()V"⟩ ∈ fg_g := fg_in (List.mem_of_getElem? (i := 2336) (by decide +kernel)) rfl
theorem u_2339 : Cond.code ⟨"FilterGuardModel", "multiply", "()V"⟩ prog_14_method_21_code 2 none ∈ fg_g := fg_in (List.mem_of_getElem? (i := 2339) (by decide +kernel)) rfl
theorem u_2338 : Cond.instanceMethod ⟨"FilterGuardModel", "multiply", "()V"⟩ ∈ fg_g := fg_in (List.mem_of_getElem? (i := 2338) (by decide +kernel)) rfl
theorem u_155 : Cond.selects "FilterGuardModel" ⟨"FilterGuardModel", "multiply", "()V"⟩ ⟨"FilterGuardModel", "multiply", "()V"⟩ ∈ fg_g := fg_in (List.mem_of_getElem? (i := 155) (by decide +kernel)) rfl
theorem d_M_does1_69 : decode prog_14_method_31_code 69 = .ok (.goto 180, 3) := by decide +kernel
theorem d_M_does1_35 : decode prog_14_method_31_code 35 = .ok (.aload_n 0, 1) := by decide +kernel
theorem d_M_does1_36 : decode prog_14_method_31_code 36 = .ok (.invokevirtual 231, 3) := by decide +kernel
theorem u_2328 : Cond.methodLink "FilterGuardModel" 231 ⟨"FilterGuardModel", "add", "()V"⟩ ∈ fg_g := fg_in (List.mem_of_getElem? (i := 2328) (by decide +kernel)) rfl
theorem u_2331 : Cond.code ⟨"FilterGuardModel", "add", "()V"⟩ prog_14_method_18_code 14 none ∈ fg_g := fg_in (List.mem_of_getElem? (i := 2331) (by decide +kernel)) rfl
theorem u_2330 : Cond.instanceMethod ⟨"FilterGuardModel", "add", "()V"⟩ ∈ fg_g := fg_in (List.mem_of_getElem? (i := 2330) (by decide +kernel)) rfl
theorem u_153 : Cond.selects "FilterGuardModel" ⟨"FilterGuardModel", "add", "()V"⟩ ⟨"FilterGuardModel", "add", "()V"⟩ ∈ fg_g := fg_in (List.mem_of_getElem? (i := 153) (by decide +kernel)) rfl
theorem d_M_does1_39 : decode prog_14_method_31_code 39 = .ok (.goto 210, 3) := by decide +kernel
theorem d_M_does1_0 : decode prog_14_method_31_code 0 = .ok (.aload_n 0, 1) := by decide +kernel
theorem d_M_does1_1 : decode prog_14_method_31_code 1 = .ok (.sipush 30077, 3) := by decide +kernel
theorem d_M_does1_4 : decode prog_14_method_31_code 4 = .ok (.invokevirtual 228, 3) := by decide +kernel
theorem d_M_does1_7 : decode prog_14_method_31_code 7 = .ok (.iload_n 1, 1) := by decide +kernel
theorem d_M_does1_8 : decode prog_14_method_31_code 8 = .ok (.bipush 11, 2) := by decide +kernel
theorem d_M_does1_10 : decode prog_14_method_31_code 10 = .ok (.if_icmp .ne 21, 3) := by decide +kernel
theorem d_M_does1_13 : decode prog_14_method_31_code 13 = .ok (.aload_n 0, 1) := by decide +kernel
theorem d_M_does1_14 : decode prog_14_method_31_code 14 = .ok (.sipush 30075, 3) := by decide +kernel
theorem d_M_does1_17 : decode prog_14_method_31_code 17 = .ok (.sipush 30076, 3) := by decide +kernel
theorem d_M_does1_20 : decode prog_14_method_31_code 20 = .ok (.invokevirtual 208, 3) := by decide +kernel
theorem d_M_does1_23 : decode prog_14_method_31_code 23 = .ok (.aload_n 0, 1) := by decide +kernel
theorem d_M_does1_24 : decode prog_14_method_31_code 24 = .ok (.sipush 30075, 3) := by decide +kernel
theorem d_M_does1_27 : decode prog_14_method_31_code 27 = .ok (.lconst 0, 1) := by decide +kernel
theorem d_M_does1_28 : decode prog_14_method_31_code 28 = .ok (.invokevirtual 195, 3) := by decide +kernel
abbrev y_M_does1 : MethodName := ⟨"FilterGuardModel", "does", "(IZ)V"⟩
def f_M_does1_b249 (j0 : Nat) (M : me_M) : Option me_M := b2 (f_M_settle M j0 (30077 : Int32)) (fun (M1 : me_M) (r2 : Int32) => (if r2 = 0 then bd (f_M_setAny M1 j0 (30077 : Int32)) (fun (M4 : me_M) => some M4) else some M1))
def f_M_does1_b244 (j0 : Nat) (M : me_M) (s0 : Int64) (s1 : Int64) (s2 : Int32) (s3 : Nat) : Option me_M := bd (f_M_shift M s3 s2 ((s1 &&& s0).toInt32)) (fun (M5 : me_M) => f_M_does1_b249 j0 M5)
def f_M_does1_b223 (j0 : Nat) (x2 : Int32) (M : me_M) (s0 : Int32) (s1 : Nat) : Option me_M := bd (mR M 1 j0 52) (fun (j6 : Nat) => gd (30076 < mZ M 16 j6) ((if x2 = 0 then f_M_does1_b244 j0 M (63 : Int64) (mL M 16 j6 30076) s0 s1 else f_M_does1_b244 j0 M (31 : Int64) (mL M 16 j6 30076) s0 s1)))
def f_M_does1_b222 (j0 : Nat) (x1 : Int32) (x2 : Int32) (M : me_M) (s0 : Nat) : Option me_M := f_M_does1_b223 j0 x2 M x1 s0
def f_M_does1_b206 (j0 : Nat) (x1 : Int32) (x2 : Int32) (M : me_M) : Option me_M := (if x2 = 0 then f_M_does1_b222 j0 x1 x2 M j0 else (if x1 = 10 then f_M_does1_b223 j0 x2 M (9 : Int32) j0 else f_M_does1_b222 j0 x1 x2 M j0))
def f_M_does1_b53 (j0 : Nat) (M : me_M) : Option me_M := bd (f_M_subtract M j0) (fun (M12 : me_M) => f_M_does1_b249 j0 M12)
def f_M_does1_b31 (j0 : Nat) (x1 : Int32) (x2 : Int32) (M : me_M) : Option me_M := (if x1 = 0 then bd (f_M_add M j0) (fun (M44 : me_M) => f_M_does1_b249 j0 M44) else (if x1 = 1 then f_M_does1_b53 j0 M else (if x1 = 11 then f_M_does1_b53 j0 M else (if x1 = 2 then bd (f_M_multiply M j0) (fun (M43 : me_M) => f_M_does1_b249 j0 M43) else (if x1 = 3 then bd (f_M_divide M j0) (fun (M42 : me_M) => f_M_does1_b249 j0 M42) else (if x1 = 4 then bd (f_M_rest M j0) (fun (M41 : me_M) => f_M_does1_b249 j0 M41) else (if 8 ≤ x1 then (if x1 = 12 then bd (f_M_copyNumber M j0 (30076 : Int32) (30077 : Int32)) (fun (M39 : me_M) => f_M_does1_b249 j0 M39) else (if x1 = 13 then b2 (f_M_bytesOf M j0 (30076 : Int32)) (fun (M36 : me_M) (r37 : Int32) => bd (f_M_swap M36 j0 r37) (fun (M38 : me_M) => f_M_does1_b249 j0 M38)) else (if x1 = 14 then b2 (f_M_bytesOf M j0 (30076 : Int32)) (fun (M33 : me_M) (r34 : Int32) => bd (f_M_cut M33 j0 r34) (fun (M35 : me_M) => f_M_does1_b249 j0 M35)) else b2 (f_M_isExact M j0 (30076 : Int32)) (fun (M23 : me_M) (r24 : Int32) => (if r24 = 0 then f_M_does1_b249 j0 M23 else (if x2 = 0 then f_M_does1_b206 j0 x1 x2 M23 else (if x1 = 10 then bd (mR M 1 j0 55) (fun (j28 : Nat) => gd (30075 < mZ M 16 j28) (bd (f_M_below (mL M23 16 j28 30075) (2147483648 : Int64)) (fun (r31 : Int32) => (if r31 = 0 then f_M_does1_b249 j0 M23 else f_M_does1_b206 j0 x1 x2 M23)))) else f_M_does1_b206 j0 x1 x2 M23))))))) else bd (f_M_logic M j0 x1) (fun (M40 : me_M) => f_M_does1_b249 j0 M40))))))))
def f_M_does1 (M0 : me_M) (j0 : Nat) (x1 : Int32) (x2 : Int32) : Option me_M := bd (f_M_setAny M0 j0 (30077 : Int32)) (fun (M45 : me_M) => (if x1 = 11 then bd (f_M_copyNumber M45 j0 (30075 : Int32) (30076 : Int32)) (fun (M47 : me_M) => bd (f_M_setExact M47 j0 (30075 : Int32) (0 : Int64)) (fun (M48 : me_M) => f_M_does1_b31 j0 x1 x2 M48)) else f_M_does1_b31 j0 x1 x2 M45))
def rm_M_does1 : Room := { frames := 5, cells := 0, slots := 0, locals := 110 }
abbrev q_M_does1 (D : va_G) (ad : Nat → Nat → Nat) (ca : Nat → ClassId) (N : Nat → Nat) (M0 MZ : me_M) (A : Nat → Prop) : Array Value → Jvm.State → Outcome → Jvm.State → Prop := va_Qv (fun (_ : Unit) => me_wf N MZ ∧ me_kp M0 MZ) (fg_B D A (fun _ => me_W ad ca MZ) (fun _ => [])) A
set_option maxHeartbeats 4000000 in
set_option maxRecDepth 100000 in
theorem c_M_does1 (l : Launch) (D : va_G) (ad : Nat → Nat → Nat) (ca : Nat → ClassId) (N : Nat → Nat) (M0 MZ : me_M) (j0 : Nat) (x1 : Int32) (x2 : Int32) (h : f_M_does1 M0 j0 x1 x2 = (some MZ)) (hwf : me_wf N M0) (hj0 : j0 < N 1) (zx2 : x2 = 1 ∨ x2 = 0) (sz : Nat) : Met l y_M_does1 (fg_w y_M_does1 prog_14_method_31_code 3 none) rm_M_does1 (va_Pc [.ref (ad 1 j0), .int x1, .int x2] (fz_P D (me_T ca) (me_W ad ca M0) sz)) (q_M_does1 D ad ca N M0 MZ (va_A (me_W ad ca M0) sz)) rm_M_does1.cells rm_M_does1.slots (va_A (me_W ad ca M0) sz) := by
  refine fz_enter (fun A => q_M_does1 D ad ca N M0 MZ A) (by decide +kernel) (Nat.le_of_ble_eq_true rfl) ?_
  intro p e s m below meth c ls A hx hb hml hown hts hr hlocks hin hP hK hD hS hA hX hl hz
  have hl : lv_has ls 3 [(0, .ref (ad 1 j0)), (1, .int x1), (2, .int x2)] := hl
  unfold f_M_does1 at h
  have hkp : me_kp M0 M0 := me_kp.rf
  have hkb := hkp
  have b_249 : ∀ (M : me_M) (H : Heap) (locs : List Loc) (ls : Array Slot), f_M_does1_b249 j0 M = (some MZ) → me_wf N M → me_kp M0 M → va_P D classes (me_W ad ca M) H → va_D A (me_W ad ca M) → va_S A s.heap H locs → lv_has ls 3 [(0, .ref (ad 1 j0))] → W p l e rm_M_does1 s m [.ref (ad 1 j0), .int x1, .int x2].toArray below meth c H locs 0 0 (MQ below (q_M_does1 D ad ca N M0 MZ A) [.ref (ad 1 j0), .int x1, .int x2].toArray s rm_M_does1.cells rm_M_does1.slots A) (F0 m 249 ls []) := by
    intro M H locs ls h hwf hkp hP hD hS hl
    unfold f_M_does1_b249 at h
    have hkb := hkp
    refine lv_aload_n hx hb d_M_does1_249 rfl (lv_at hl 0 rfl) ?_
    refine lv_sipush (v := 30077) hx hb d_M_does1_250 (by decide) ?_
    obtain ⟨M1, r2, eM1, h⟩ := b2_ob h
    refine me_theni0 (M1 := M1) (me_runV (C := "FilterGuardModel") (As := [.int 30077]) (rest := []) ⟨hx, hb, hml, hown, hts⟩ (c_M_settle l D ad ca N M M1 r2 j0 (30077 : Int32) eM1 hwf hj0 _) rfl (by show fg_nm y_M_settle 1; decide +kernel) u_2143 u_2145 u_113 u_192 u_2146 ⟨Nat.le_of_ble_eq_true rfl, Nat.le_of_ble_eq_true rfl⟩ hX hz hK hP hD hwf hS hA hj0 (by decide) rfl rfl rfl hl.1 (Nat.le_of_ble_eq_true rfl) d_M_does1_253 ⟨Nat.le_of_ble_eq_true rfl, Nat.le_of_ble_eq_true rfl⟩) hP hD hK hS hA rfl rfl (fun H locs hw hP hD hS => ?_)
    obtain ⟨hwf, hk9, zr2⟩ := hw
    have hkp := hkp.tr hk9
    refine lv_if_ne (tgt := 266) hx hb d_M_does1_256 (by decide) (fun c3 => ?_) (fun c3 => ?_)
    · have h := if_f c3 h
      cases h
      exact fg_retv () hx hb hr hlocks ⟨hwf, hkp⟩ hP (hK.sub (tys' := []) [] rfl) hD hS (Nat.le_of_ble_eq_true rfl) (Nat.le_of_ble_eq_true rfl) d_M_does1_266
    have h := if_t c3 h
    refine lv_aload_n hx hb d_M_does1_259 rfl (lv_at hl 0 rfl) ?_
    refine lv_sipush (v := 30077) hx hb d_M_does1_260 (by decide) ?_
    obtain ⟨M4, eM4, h⟩ := bd_ob h
    refine me_thenv0 (M1 := M4) (me_runV (C := "FilterGuardModel") (As := [.int 30077]) (rest := []) ⟨hx, hb, hml, hown, hts⟩ (c_M_setAny l D ad ca N M1 M4 j0 (30077 : Int32) eM4 hwf hj0 _) rfl (by show fg_nm y_M_setAny 1; decide +kernel) u_2138 u_2140 u_112 u_192 u_2141 ⟨Nat.le_of_ble_eq_true rfl, Nat.le_of_ble_eq_true rfl⟩ hX hz hK hP hD hwf hS hA hj0 (by decide) rfl rfl rfl hl.1 (Nat.le_of_ble_eq_true rfl) d_M_does1_263 ⟨Nat.le_of_ble_eq_true rfl, Nat.le_of_ble_eq_true rfl⟩) hP hD hK hS hA rfl rfl (fun H locs hw hP hD hS => ?_)
    obtain ⟨hwf, hk9⟩ := hw
    have hkp := hkp.tr hk9
    cases h
    exact fg_retv () hx hb hr hlocks ⟨hwf, hkp⟩ hP (hK.sub (tys' := []) [] rfl) hD hS (Nat.le_of_ble_eq_true rfl) (Nat.le_of_ble_eq_true rfl) d_M_does1_266
  have b_244 : ∀ (M : me_M) (s0 : Int64) (s1 : Int64) (s2 : Int32) (s3 : Nat) (H : Heap) (locs : List Loc) (ls : Array Slot), f_M_does1_b244 j0 M s0 s1 s2 s3 = (some MZ) → (s3 < N 1) → me_wf N M → me_kp M0 M → va_P D classes (me_W ad ca M) H → va_D A (me_W ad ca M) → va_S A s.heap H locs → lv_has ls 3 [(0, .ref (ad 1 j0))] → W p l e rm_M_does1 s m [.ref (ad 1 j0), .int x1, .int x2].toArray below meth c H locs 0 0 (MQ below (q_M_does1 D ad ca N M0 MZ A) [.ref (ad 1 j0), .int x1, .int x2].toArray s rm_M_does1.cells rm_M_does1.slots A) (F0 m 244 ls [.long s0, .long s1, .int s2, .ref (ad 1 s3)]) := by
    intro M s0 s1 s2 s3 H locs ls h hs3 hwf hkp hP hD hS hl
    unfold f_M_does1_b244 at h
    have hkb := hkp
    refine lv_land hx hb d_M_does1_244 ?_
    refine lv_l2i (v := (s1 &&& s0).toInt32) hx hb d_M_does1_245 rfl ?_
    obtain ⟨M5, eM5, h⟩ := bd_ob h
    refine me_thenv0 (M1 := M5) (me_runV (C := "FilterGuardModel") (As := [.int s2, .int ((s1 &&& s0).toInt32)]) (rest := []) ⟨hx, hb, hml, hown, hts⟩ (c_M_shift l D ad ca N M M5 s3 s2 ((s1 &&& s0).toInt32) eM5 hwf hs3 _) rfl (by show fg_nm y_M_shift 2; decide +kernel) u_2376 u_2378 u_163 u_192 u_2379 ⟨Nat.le_of_ble_eq_true rfl, Nat.le_of_ble_eq_true rfl⟩ hX hz hK hP hD hwf hS hA hs3 (by decide) rfl rfl rfl hl.1 (Nat.le_of_ble_eq_true rfl) d_M_does1_246 ⟨Nat.le_of_ble_eq_true rfl, Nat.le_of_ble_eq_true rfl⟩) hP hD hK hS hA rfl rfl (fun H locs hw hP hD hS => ?_)
    obtain ⟨hwf, hk9⟩ := hw
    have hkp := hkp.tr hk9
    exact b_249 M5 _ _ _ h hwf hkp hP hD hS (lv_sub hl [0] rfl)
  have b_223 : ∀ (M : me_M) (s0 : Int32) (s1 : Nat) (H : Heap) (locs : List Loc) (ls : Array Slot), f_M_does1_b223 j0 x2 M s0 s1 = (some MZ) → (s1 < N 1) → me_wf N M → me_kp M0 M → va_P D classes (me_W ad ca M) H → va_D A (me_W ad ca M) → va_S A s.heap H locs → lv_has ls 3 [(0, .ref (ad 1 j0)), (2, .int x2)] → W p l e rm_M_does1 s m [.ref (ad 1 j0), .int x1, .int x2].toArray below meth c H locs 0 0 (MQ below (q_M_does1 D ad ca N M0 MZ A) [.ref (ad 1 j0), .int x1, .int x2].toArray s rm_M_does1.cells rm_M_does1.slots A) (F0 m 223 ls [.int s0, .ref (ad 1 s1)]) := by
    intro M s0 s1 H locs ls h hs1 hwf hkp hP hD hS hl
    unfold f_M_does1_b223 at h
    have hkb := hkp
    refine lv_aload_n hx hb d_M_does1_223 rfl (lv_at hl 0 rfl) ?_
    refine g_M_52 hx hb hts hown hK hP hwf hj0 (hts _ u_1793) d_M_does1_224 ?_
    obtain ⟨j6, e7, h⟩ := bd_ob h
    have hj6 : j6 < N 16 := (hwf.2.1 1 j0 52 _ e7 (by decide) hj0)
    refine me_opt (j := j6) e7 ?_
    refine lv_sipush (v := 30076) hx hb d_M_does1_227 (by decide) ?_
    obtain ⟨g8, h⟩ := gd_ob h
    refine me_lald hx hb hK hP hwf hj6 (me_in (i := (30076 : Int32)) (k := 30076) (by decide) (by decide) g8) d_M_does1_230 ?_
    refine fg_topl (y := mL M 16 j6 30076) (congrArg _ (by decide)) ?_
    refine lv_iload_n hx hb d_M_does1_231 rfl (lv_at hl 1 rfl) ?_
    refine lv_if_eq (tgt := 241) hx hb d_M_does1_232 (by decide) (fun c9 => ?_) (fun c9 => ?_)
    · have h := if_t c9 h
      refine lv_ldc2 hx hb hown (hts _ u_2030) d_M_does1_241 ?_
      exact b_244 M (63 : Int64) (mL M 16 j6 30076) s0 s1 _ _ _ h hs1 hwf hkp hP hD hS (lv_sub hl [0] rfl)
    have h := if_f c9 h
    refine lv_ldc2 hx hb hown (hts _ u_2029) d_M_does1_235 ?_
    refine lv_goto (tgt := 244) hx hb d_M_does1_238 (by decide) ?_
    exact b_244 M (31 : Int64) (mL M 16 j6 30076) s0 s1 _ _ _ h hs1 hwf hkp hP hD hS (lv_sub hl [0] rfl)
  have b_222 : ∀ (M : me_M) (s0 : Nat) (H : Heap) (locs : List Loc) (ls : Array Slot), f_M_does1_b222 j0 x1 x2 M s0 = (some MZ) → (s0 < N 1) → me_wf N M → me_kp M0 M → va_P D classes (me_W ad ca M) H → va_D A (me_W ad ca M) → va_S A s.heap H locs → lv_has ls 3 [(0, .ref (ad 1 j0)), (1, .int x1), (2, .int x2)] → W p l e rm_M_does1 s m [.ref (ad 1 j0), .int x1, .int x2].toArray below meth c H locs 0 0 (MQ below (q_M_does1 D ad ca N M0 MZ A) [.ref (ad 1 j0), .int x1, .int x2].toArray s rm_M_does1.cells rm_M_does1.slots A) (F0 m 222 ls [.ref (ad 1 s0)]) := by
    intro M s0 H locs ls h hs0 hwf hkp hP hD hS hl
    unfold f_M_does1_b222 at h
    have hkb := hkp
    refine lv_iload_n hx hb d_M_does1_222 rfl (lv_at hl 1 rfl) ?_
    exact b_223 M x1 s0 _ _ _ h hs0 hwf hkp hP hD hS (lv_sub hl [0, 2] rfl)
  have b_206 : ∀ (M : me_M) (H : Heap) (locs : List Loc) (ls : Array Slot), f_M_does1_b206 j0 x1 x2 M = (some MZ) → me_wf N M → me_kp M0 M → va_P D classes (me_W ad ca M) H → va_D A (me_W ad ca M) → va_S A s.heap H locs → lv_has ls 3 [(0, .ref (ad 1 j0)), (1, .int x1), (2, .int x2)] → W p l e rm_M_does1 s m [.ref (ad 1 j0), .int x1, .int x2].toArray below meth c H locs 0 0 (MQ below (q_M_does1 D ad ca N M0 MZ A) [.ref (ad 1 j0), .int x1, .int x2].toArray s rm_M_does1.cells rm_M_does1.slots A) (F0 m 206 ls []) := by
    intro M H locs ls h hwf hkp hP hD hS hl
    unfold f_M_does1_b206 at h
    have hkb := hkp
    refine lv_aload_n hx hb d_M_does1_206 rfl (lv_at hl 0 rfl) ?_
    refine lv_iload_n hx hb d_M_does1_207 rfl (lv_at hl 2 rfl) ?_
    refine lv_if_eq (tgt := 222) hx hb d_M_does1_208 (by decide) (fun c10 => ?_) (fun c10 => ?_)
    · have h := if_t c10 h
      exact b_222 M j0 _ _ _ h hj0 hwf hkp hP hD hS (lv_sub hl [0, 1, 2] rfl)
    have h := if_f c10 h
    refine lv_iload_n hx hb d_M_does1_211 rfl (lv_at hl 1 rfl) ?_
    refine lv_bipush (v := 10) hx hb d_M_does1_212 (by decide) ?_
    refine lv_icmp_ne (tgt := 222) hx hb d_M_does1_214 (by decide) (fun c11 => ?_) (fun c11 => ?_)
    · have h := if_f c11 h
      exact b_222 M j0 _ _ _ h hj0 hwf hkp hP hD hS (lv_sub hl [0, 1, 2] rfl)
    have h := if_t c11 h
    refine lv_bipush (v := 9) hx hb d_M_does1_217 (by decide) ?_
    refine lv_goto (tgt := 223) hx hb d_M_does1_219 (by decide) ?_
    exact b_223 M (9 : Int32) j0 _ _ _ h hj0 hwf hkp hP hD hS (lv_sub hl [0, 2] rfl)
  have b_53 : ∀ (M : me_M) (H : Heap) (locs : List Loc) (ls : Array Slot), f_M_does1_b53 j0 M = (some MZ) → me_wf N M → me_kp M0 M → va_P D classes (me_W ad ca M) H → va_D A (me_W ad ca M) → va_S A s.heap H locs → lv_has ls 3 [(0, .ref (ad 1 j0))] → W p l e rm_M_does1 s m [.ref (ad 1 j0), .int x1, .int x2].toArray below meth c H locs 0 0 (MQ below (q_M_does1 D ad ca N M0 MZ A) [.ref (ad 1 j0), .int x1, .int x2].toArray s rm_M_does1.cells rm_M_does1.slots A) (F0 m 53 ls []) := by
    intro M H locs ls h hwf hkp hP hD hS hl
    unfold f_M_does1_b53 at h
    have hkb := hkp
    refine lv_aload_n hx hb d_M_does1_53 rfl (lv_at hl 0 rfl) ?_
    obtain ⟨M12, eM12, h⟩ := bd_ob h
    refine me_thenv0 (M1 := M12) (me_runV (C := "FilterGuardModel") (As := []) (rest := []) ⟨hx, hb, hml, hown, hts⟩ (c_M_subtract l D ad ca N M M12 j0 eM12 hwf hj0 _) rfl (by show fg_nm y_M_subtract 0; decide +kernel) u_2332 u_2334 u_154 u_192 u_2335 ⟨Nat.le_of_ble_eq_true rfl, Nat.le_of_ble_eq_true rfl⟩ hX hz hK hP hD hwf hS hA hj0 (by decide) rfl rfl rfl hl.1 (Nat.le_of_ble_eq_true rfl) d_M_does1_54 ⟨Nat.le_of_ble_eq_true rfl, Nat.le_of_ble_eq_true rfl⟩) hP hD hK hS hA rfl rfl (fun H locs hw hP hD hS => ?_)
    obtain ⟨hwf, hk9⟩ := hw
    have hkp := hkp.tr hk9
    refine lv_goto (tgt := 249) hx hb d_M_does1_57 (by decide) ?_
    exact b_249 M12 _ _ _ h hwf hkp hP hD hS (lv_sub hl [0] rfl)
  have b_31 : ∀ (M : me_M) (H : Heap) (locs : List Loc) (ls : Array Slot), f_M_does1_b31 j0 x1 x2 M = (some MZ) → me_wf N M → me_kp M0 M → va_P D classes (me_W ad ca M) H → va_D A (me_W ad ca M) → va_S A s.heap H locs → lv_has ls 3 [(0, .ref (ad 1 j0)), (1, .int x1), (2, .int x2)] → W p l e rm_M_does1 s m [.ref (ad 1 j0), .int x1, .int x2].toArray below meth c H locs 0 0 (MQ below (q_M_does1 D ad ca N M0 MZ A) [.ref (ad 1 j0), .int x1, .int x2].toArray s rm_M_does1.cells rm_M_does1.slots A) (F0 m 31 ls []) := by
    intro M H locs ls h hwf hkp hP hD hS hl
    unfold f_M_does1_b31 at h
    have hkb := hkp
    refine lv_iload_n hx hb d_M_does1_31 rfl (lv_at hl 1 rfl) ?_
    refine lv_if_ne (tgt := 42) hx hb d_M_does1_32 (by decide) (fun c13 => ?_) (fun c13 => ?_)
    · have h := if_f c13 h
      refine lv_iload_n hx hb d_M_does1_42 rfl (lv_at hl 1 rfl) ?_
      refine lv_iconst (v := 1) hx hb d_M_does1_43 (by decide) ?_
      refine lv_icmp_eq (tgt := 53) hx hb d_M_does1_44 (by decide) (fun c14 => ?_) (fun c14 => ?_)
      · have h := if_t c14 h
        exact b_53 M _ _ _ h hwf hkp hP hD hS (lv_sub hl [0] rfl)
      have h := if_f c14 h
      refine lv_iload_n hx hb d_M_does1_47 rfl (lv_at hl 1 rfl) ?_
      refine lv_bipush (v := 11) hx hb d_M_does1_48 (by decide) ?_
      refine lv_icmp_ne (tgt := 60) hx hb d_M_does1_50 (by decide) (fun c15 => ?_) (fun c15 => ?_)
      · have h := if_f c15 h
        refine lv_iload_n hx hb d_M_does1_60 rfl (lv_at hl 1 rfl) ?_
        refine lv_iconst (v := 2) hx hb d_M_does1_61 (by decide) ?_
        refine lv_icmp_ne (tgt := 72) hx hb d_M_does1_62 (by decide) (fun c16 => ?_) (fun c16 => ?_)
        · have h := if_f c16 h
          refine lv_iload_n hx hb d_M_does1_72 rfl (lv_at hl 1 rfl) ?_
          refine lv_iconst (v := 3) hx hb d_M_does1_73 (by decide) ?_
          refine lv_icmp_ne (tgt := 84) hx hb d_M_does1_74 (by decide) (fun c17 => ?_) (fun c17 => ?_)
          · have h := if_f c17 h
            refine lv_iload_n hx hb d_M_does1_84 rfl (lv_at hl 1 rfl) ?_
            refine lv_iconst (v := 4) hx hb d_M_does1_85 (by decide) ?_
            refine lv_icmp_ne (tgt := 96) hx hb d_M_does1_86 (by decide) (fun c18 => ?_) (fun c18 => ?_)
            · have h := if_f c18 h
              refine lv_iload_n hx hb d_M_does1_96 rfl (lv_at hl 1 rfl) ?_
              refine lv_bipush (v := 8) hx hb d_M_does1_97 (by decide) ?_
              refine lv_icmp_ge (tgt := 110) hx hb d_M_does1_99 (by decide) (fun c19 => ?_) (fun c19 => ?_)
              · have h := if_t c19 h
                refine lv_iload_n hx hb d_M_does1_110 rfl (lv_at hl 1 rfl) ?_
                refine lv_bipush (v := 12) hx hb d_M_does1_111 (by decide) ?_
                refine lv_icmp_ne (tgt := 129) hx hb d_M_does1_113 (by decide) (fun c20 => ?_) (fun c20 => ?_)
                · have h := if_f c20 h
                  refine lv_iload_n hx hb d_M_does1_129 rfl (lv_at hl 1 rfl) ?_
                  refine lv_bipush (v := 13) hx hb d_M_does1_130 (by decide) ?_
                  refine lv_icmp_ne (tgt := 149) hx hb d_M_does1_132 (by decide) (fun c21 => ?_) (fun c21 => ?_)
                  · have h := if_f c21 h
                    refine lv_iload_n hx hb d_M_does1_149 rfl (lv_at hl 1 rfl) ?_
                    refine lv_bipush (v := 14) hx hb d_M_does1_150 (by decide) ?_
                    refine lv_icmp_ne (tgt := 169) hx hb d_M_does1_152 (by decide) (fun c22 => ?_) (fun c22 => ?_)
                    · have h := if_f c22 h
                      refine lv_aload_n hx hb d_M_does1_169 rfl (lv_at hl 0 rfl) ?_
                      refine lv_sipush (v := 30076) hx hb d_M_does1_170 (by decide) ?_
                      obtain ⟨M23, r24, eM23, h⟩ := b2_ob h
                      refine me_theni0 (M1 := M23) (me_runV (C := "FilterGuardModel") (As := [.int 30076]) (rest := []) ⟨hx, hb, hml, hown, hts⟩ (c_M_isExact l D ad ca N M M23 r24 j0 (30076 : Int32) eM23 hwf hj0 _) rfl (by show fg_nm y_M_isExact 1; decide +kernel) u_2251 u_2253 u_136 u_192 u_2254 ⟨Nat.le_of_ble_eq_true rfl, Nat.le_of_ble_eq_true rfl⟩ hX hz hK hP hD hwf hS hA hj0 (by decide) rfl rfl rfl hl.1 (Nat.le_of_ble_eq_true rfl) d_M_does1_173 ⟨Nat.le_of_ble_eq_true rfl, Nat.le_of_ble_eq_true rfl⟩) hP hD hK hS hA rfl rfl (fun H locs hw hP hD hS => ?_)
                      obtain ⟨hwf, hk9, zr24⟩ := hw
                      have hkp := hkp.tr hk9
                      refine lv_if_eq (tgt := 249) hx hb d_M_does1_176 (by decide) (fun c25 => ?_) (fun c25 => ?_)
                      · have h := if_t c25 h
                        exact b_249 M23 _ _ _ h hwf hkp hP hD hS (lv_sub hl [0] rfl)
                      have h := if_f c25 h
                      refine lv_iload_n hx hb d_M_does1_179 rfl (lv_at hl 2 rfl) ?_
                      refine lv_if_eq (tgt := 206) hx hb d_M_does1_180 (by decide) (fun c26 => ?_) (fun c26 => ?_)
                      · have h := if_t c26 h
                        exact b_206 M23 _ _ _ h hwf hkp hP hD hS (lv_sub hl [0, 1, 2] rfl)
                      have h := if_f c26 h
                      refine lv_iload_n hx hb d_M_does1_183 rfl (lv_at hl 1 rfl) ?_
                      refine lv_bipush (v := 10) hx hb d_M_does1_184 (by decide) ?_
                      refine lv_icmp_ne (tgt := 206) hx hb d_M_does1_186 (by decide) (fun c27 => ?_) (fun c27 => ?_)
                      · have h := if_f c27 h
                        exact b_206 M23 _ _ _ h hwf hkp hP hD hS (lv_sub hl [0, 1, 2] rfl)
                      have h := if_t c27 h
                      refine lv_aload_n hx hb d_M_does1_189 rfl (lv_at hl 0 rfl) ?_
                      refine g_M_55 hx hb hts hown hK hP hwf hj0 (hts _ u_1796) d_M_does1_190 ?_
                      obtain ⟨j28, e29, h⟩ := bd_ob h
                      have hj28 : j28 < N 16 := (hwf.2.1 1 j0 55 _ (kp_r hkb hkp e29) (by decide) hj0)
                      refine me_opt (j := j28) (kp_r hkb hkp e29) ?_
                      refine lv_sipush (v := 30075) hx hb d_M_does1_193 (by decide) ?_
                      obtain ⟨g30, h⟩ := gd_ob h
                      refine me_lald hx hb hK hP hwf hj28 (me_in (i := (30075 : Int32)) (k := 30075) (by decide) (by decide) (kp_c hkb.z hkp.z g30)) d_M_does1_196 ?_
                      refine fg_topl (y := mL M23 16 j28 30075) (congrArg _ (by decide)) ?_
                      refine lv_ldc2 hx hb hown (hts _ u_2375) d_M_does1_197 ?_
                      obtain ⟨r31, er31, h⟩ := bd_ob h
                      refine me_pani' (r0 := r31) (fg_runS (wc := []) (tc := []) (A2 := A) (As := [.long (mL M23 16 j28 30075), .long 2147483648]) (rest := []) ⟨hx, hb, hml, hown, hts⟩ (c_M_below l D r31 (mL M23 16 j28 30075) (2147483648 : Int64) er31 _) (by show fg_nm y_M_below 2; decide +kernel) u_2072 u_2073 u_192 u_2074 ⟨Nat.le_of_ble_eq_true rfl, Nat.le_of_ble_eq_true rfl⟩ hX me_P0 (hK.sub (tys' := []) [] rfl) me_D0 rfl hl.1 (Nat.le_of_ble_eq_true rfl) d_M_does1_200 ⟨Nat.le_of_ble_eq_true rfl, Nat.le_of_ble_eq_true rfl⟩) hP hD hK hS hA rfl rfl (fun H locs hw hP hD hS => ?_)
                      have zr31 := hw
                      refine lv_if_eq (tgt := 249) hx hb d_M_does1_203 (by decide) (fun c32 => ?_) (fun c32 => ?_)
                      · have h := if_t c32 h
                        exact b_249 M23 _ _ _ h hwf hkp hP hD hS (lv_sub hl [0] rfl)
                      have h := if_f c32 h
                      exact b_206 M23 _ _ _ h hwf hkp hP hD hS (lv_sub hl [0, 1, 2] rfl)
                    have h := if_t c22 h
                    refine lv_aload_n hx hb d_M_does1_155 rfl (lv_at hl 0 rfl) ?_
                    refine lv_aload_n hx hb d_M_does1_156 rfl (lv_at hl 0 rfl) ?_
                    refine lv_sipush (v := 30076) hx hb d_M_does1_157 (by decide) ?_
                    obtain ⟨M33, r34, eM33, h⟩ := b2_ob h
                    refine me_theni0 (M1 := M33) (me_runV (C := "FilterGuardModel") (As := [.int 30076]) (rest := [.ref (ad 1 j0)]) ⟨hx, hb, hml, hown, hts⟩ (c_M_bytesOf l D ad ca N M M33 r34 j0 (30076 : Int32) eM33 hwf hj0 _) rfl (by show fg_nm y_M_bytesOf 1; decide +kernel) u_2359 u_2361 u_160 u_192 u_2362 ⟨Nat.le_of_ble_eq_true rfl, Nat.le_of_ble_eq_true rfl⟩ hX hz hK hP hD hwf hS hA hj0 (by decide) rfl rfl rfl hl.1 (Nat.le_of_ble_eq_true rfl) d_M_does1_160 ⟨Nat.le_of_ble_eq_true rfl, Nat.le_of_ble_eq_true rfl⟩) hP hD hK hS hA rfl rfl (fun H locs hw hP hD hS => ?_)
                    obtain ⟨hwf, hk9⟩ := hw
                    have hkp := hkp.tr hk9
                    obtain ⟨M35, eM35, h⟩ := bd_ob h
                    refine me_thenv0 (M1 := M35) (me_runV (C := "FilterGuardModel") (As := [.int r34]) (rest := []) ⟨hx, hb, hml, hown, hts⟩ (c_M_cut l D ad ca N M33 M35 j0 r34 eM35 hwf hj0 _) rfl (by show fg_nm y_M_cut 1; decide +kernel) u_2371 u_2373 u_162 u_192 u_2374 ⟨Nat.le_of_ble_eq_true rfl, Nat.le_of_ble_eq_true rfl⟩ hX hz hK hP hD hwf hS hA hj0 (by decide) rfl rfl rfl hl.1 (Nat.le_of_ble_eq_true rfl) d_M_does1_163 ⟨Nat.le_of_ble_eq_true rfl, Nat.le_of_ble_eq_true rfl⟩) hP hD hK hS hA rfl rfl (fun H locs hw hP hD hS => ?_)
                    obtain ⟨hwf, hk9⟩ := hw
                    have hkp := hkp.tr hk9
                    refine lv_goto (tgt := 249) hx hb d_M_does1_166 (by decide) ?_
                    exact b_249 M35 _ _ _ h hwf hkp hP hD hS (lv_sub hl [0] rfl)
                  have h := if_t c21 h
                  refine lv_aload_n hx hb d_M_does1_135 rfl (lv_at hl 0 rfl) ?_
                  refine lv_aload_n hx hb d_M_does1_136 rfl (lv_at hl 0 rfl) ?_
                  refine lv_sipush (v := 30076) hx hb d_M_does1_137 (by decide) ?_
                  obtain ⟨M36, r37, eM36, h⟩ := b2_ob h
                  refine me_theni0 (M1 := M36) (me_runV (C := "FilterGuardModel") (As := [.int 30076]) (rest := [.ref (ad 1 j0)]) ⟨hx, hb, hml, hown, hts⟩ (c_M_bytesOf l D ad ca N M M36 r37 j0 (30076 : Int32) eM36 hwf hj0 _) rfl (by show fg_nm y_M_bytesOf 1; decide +kernel) u_2359 u_2361 u_160 u_192 u_2362 ⟨Nat.le_of_ble_eq_true rfl, Nat.le_of_ble_eq_true rfl⟩ hX hz hK hP hD hwf hS hA hj0 (by decide) rfl rfl rfl hl.1 (Nat.le_of_ble_eq_true rfl) d_M_does1_140 ⟨Nat.le_of_ble_eq_true rfl, Nat.le_of_ble_eq_true rfl⟩) hP hD hK hS hA rfl rfl (fun H locs hw hP hD hS => ?_)
                  obtain ⟨hwf, hk9⟩ := hw
                  have hkp := hkp.tr hk9
                  obtain ⟨M38, eM38, h⟩ := bd_ob h
                  refine me_thenv0 (M1 := M38) (me_runV (C := "FilterGuardModel") (As := [.int r37]) (rest := []) ⟨hx, hb, hml, hown, hts⟩ (c_M_swap l D ad ca N M36 M38 j0 r37 eM38 hwf hj0 _) rfl (by show fg_nm y_M_swap 1; decide +kernel) u_2363 u_2365 u_161 u_192 u_2366 ⟨Nat.le_of_ble_eq_true rfl, Nat.le_of_ble_eq_true rfl⟩ hX hz hK hP hD hwf hS hA hj0 (by decide) rfl rfl rfl hl.1 (Nat.le_of_ble_eq_true rfl) d_M_does1_143 ⟨Nat.le_of_ble_eq_true rfl, Nat.le_of_ble_eq_true rfl⟩) hP hD hK hS hA rfl rfl (fun H locs hw hP hD hS => ?_)
                  obtain ⟨hwf, hk9⟩ := hw
                  have hkp := hkp.tr hk9
                  refine lv_goto (tgt := 249) hx hb d_M_does1_146 (by decide) ?_
                  exact b_249 M38 _ _ _ h hwf hkp hP hD hS (lv_sub hl [0] rfl)
                have h := if_t c20 h
                refine lv_aload_n hx hb d_M_does1_116 rfl (lv_at hl 0 rfl) ?_
                refine lv_sipush (v := 30076) hx hb d_M_does1_117 (by decide) ?_
                refine lv_sipush (v := 30077) hx hb d_M_does1_120 (by decide) ?_
                obtain ⟨M39, eM39, h⟩ := bd_ob h
                refine me_thenv0 (M1 := M39) (me_runV (C := "FilterGuardModel") (As := [.int 30076, .int 30077]) (rest := []) ⟨hx, hb, hml, hown, hts⟩ (c_M_copyNumber l D ad ca N M M39 j0 (30076 : Int32) (30077 : Int32) eM39 hwf hj0 _) rfl (by show fg_nm y_M_copyNumber 2; decide +kernel) u_2096 u_2098 u_103 u_192 u_2099 ⟨Nat.le_of_ble_eq_true rfl, Nat.le_of_ble_eq_true rfl⟩ hX hz hK hP hD hwf hS hA hj0 (by decide) rfl rfl rfl hl.1 (Nat.le_of_ble_eq_true rfl) d_M_does1_123 ⟨Nat.le_of_ble_eq_true rfl, Nat.le_of_ble_eq_true rfl⟩) hP hD hK hS hA rfl rfl (fun H locs hw hP hD hS => ?_)
                obtain ⟨hwf, hk9⟩ := hw
                have hkp := hkp.tr hk9
                refine lv_goto (tgt := 249) hx hb d_M_does1_126 (by decide) ?_
                exact b_249 M39 _ _ _ h hwf hkp hP hD hS (lv_sub hl [0] rfl)
              have h := if_f c19 h
              refine lv_aload_n hx hb d_M_does1_102 rfl (lv_at hl 0 rfl) ?_
              refine lv_iload_n hx hb d_M_does1_103 rfl (lv_at hl 1 rfl) ?_
              obtain ⟨M40, eM40, h⟩ := bd_ob h
              refine me_thenv0 (M1 := M40) (me_runV (C := "FilterGuardModel") (As := [.int x1]) (rest := []) ⟨hx, hb, hml, hown, hts⟩ (c_M_logic l D ad ca N M M40 j0 x1 eM40 hwf hj0 _) rfl (by show fg_nm y_M_logic 1; decide +kernel) u_2355 u_2357 u_159 u_192 u_2358 ⟨Nat.le_of_ble_eq_true rfl, Nat.le_of_ble_eq_true rfl⟩ hX hz hK hP hD hwf hS hA hj0 (by decide) rfl rfl rfl hl.1 (Nat.le_of_ble_eq_true rfl) d_M_does1_104 ⟨Nat.le_of_ble_eq_true rfl, Nat.le_of_ble_eq_true rfl⟩) hP hD hK hS hA rfl rfl (fun H locs hw hP hD hS => ?_)
              obtain ⟨hwf, hk9⟩ := hw
              have hkp := hkp.tr hk9
              refine lv_goto (tgt := 249) hx hb d_M_does1_107 (by decide) ?_
              exact b_249 M40 _ _ _ h hwf hkp hP hD hS (lv_sub hl [0] rfl)
            have h := if_t c18 h
            refine lv_aload_n hx hb d_M_does1_89 rfl (lv_at hl 0 rfl) ?_
            obtain ⟨M41, eM41, h⟩ := bd_ob h
            refine me_thenv0 (M1 := M41) (me_runV (C := "FilterGuardModel") (As := []) (rest := []) ⟨hx, hb, hml, hown, hts⟩ (c_M_rest l D ad ca N M M41 j0 eM41 hwf hj0 _) rfl (by show fg_nm y_M_rest 0; decide +kernel) u_2351 u_2353 u_158 u_192 u_2354 ⟨Nat.le_of_ble_eq_true rfl, Nat.le_of_ble_eq_true rfl⟩ hX hz hK hP hD hwf hS hA hj0 (by decide) rfl rfl rfl hl.1 (Nat.le_of_ble_eq_true rfl) d_M_does1_90 ⟨Nat.le_of_ble_eq_true rfl, Nat.le_of_ble_eq_true rfl⟩) hP hD hK hS hA rfl rfl (fun H locs hw hP hD hS => ?_)
            obtain ⟨hwf, hk9⟩ := hw
            have hkp := hkp.tr hk9
            refine lv_goto (tgt := 249) hx hb d_M_does1_93 (by decide) ?_
            exact b_249 M41 _ _ _ h hwf hkp hP hD hS (lv_sub hl [0] rfl)
          have h := if_t c17 h
          refine lv_aload_n hx hb d_M_does1_77 rfl (lv_at hl 0 rfl) ?_
          obtain ⟨M42, eM42, h⟩ := bd_ob h
          refine me_thenv0 (M1 := M42) (me_runV (C := "FilterGuardModel") (As := []) (rest := []) ⟨hx, hb, hml, hown, hts⟩ (c_M_divide l D ad ca N M M42 j0 eM42 hwf hj0 _) rfl (by show fg_nm y_M_divide 0; decide +kernel) u_2344 u_2346 u_157 u_192 u_2347 ⟨Nat.le_of_ble_eq_true rfl, Nat.le_of_ble_eq_true rfl⟩ hX hz hK hP hD hwf hS hA hj0 (by decide) rfl rfl rfl hl.1 (Nat.le_of_ble_eq_true rfl) d_M_does1_78 ⟨Nat.le_of_ble_eq_true rfl, Nat.le_of_ble_eq_true rfl⟩) hP hD hK hS hA rfl rfl (fun H locs hw hP hD hS => ?_)
          obtain ⟨hwf, hk9⟩ := hw
          have hkp := hkp.tr hk9
          refine lv_goto (tgt := 249) hx hb d_M_does1_81 (by decide) ?_
          exact b_249 M42 _ _ _ h hwf hkp hP hD hS (lv_sub hl [0] rfl)
        have h := if_t c16 h
        refine lv_aload_n hx hb d_M_does1_65 rfl (lv_at hl 0 rfl) ?_
        obtain ⟨M43, eM43, h⟩ := bd_ob h
        refine me_thenv0 (M1 := M43) (me_runV (C := "FilterGuardModel") (As := []) (rest := []) ⟨hx, hb, hml, hown, hts⟩ (c_M_multiply l D ad ca N M M43 j0 eM43 hwf hj0 _) rfl (by show fg_nm y_M_multiply 0; decide +kernel) u_2336 u_2338 u_155 u_192 u_2339 ⟨Nat.le_of_ble_eq_true rfl, Nat.le_of_ble_eq_true rfl⟩ hX hz hK hP hD hwf hS hA hj0 (by decide) rfl rfl rfl hl.1 (Nat.le_of_ble_eq_true rfl) d_M_does1_66 ⟨Nat.le_of_ble_eq_true rfl, Nat.le_of_ble_eq_true rfl⟩) hP hD hK hS hA rfl rfl (fun H locs hw hP hD hS => ?_)
        obtain ⟨hwf, hk9⟩ := hw
        have hkp := hkp.tr hk9
        refine lv_goto (tgt := 249) hx hb d_M_does1_69 (by decide) ?_
        exact b_249 M43 _ _ _ h hwf hkp hP hD hS (lv_sub hl [0] rfl)
      have h := if_t c15 h
      exact b_53 M _ _ _ h hwf hkp hP hD hS (lv_sub hl [0] rfl)
    have h := if_t c13 h
    refine lv_aload_n hx hb d_M_does1_35 rfl (lv_at hl 0 rfl) ?_
    obtain ⟨M44, eM44, h⟩ := bd_ob h
    refine me_thenv0 (M1 := M44) (me_runV (C := "FilterGuardModel") (As := []) (rest := []) ⟨hx, hb, hml, hown, hts⟩ (c_M_add l D ad ca N M M44 j0 eM44 hwf hj0 _) rfl (by show fg_nm y_M_add 0; decide +kernel) u_2328 u_2330 u_153 u_192 u_2331 ⟨Nat.le_of_ble_eq_true rfl, Nat.le_of_ble_eq_true rfl⟩ hX hz hK hP hD hwf hS hA hj0 (by decide) rfl rfl rfl hl.1 (Nat.le_of_ble_eq_true rfl) d_M_does1_36 ⟨Nat.le_of_ble_eq_true rfl, Nat.le_of_ble_eq_true rfl⟩) hP hD hK hS hA rfl rfl (fun H locs hw hP hD hS => ?_)
    obtain ⟨hwf, hk9⟩ := hw
    have hkp := hkp.tr hk9
    refine lv_goto (tgt := 249) hx hb d_M_does1_39 (by decide) ?_
    exact b_249 M44 _ _ _ h hwf hkp hP hD hS (lv_sub hl [0] rfl)
  refine lv_aload_n hx hb d_M_does1_0 rfl (lv_at hl 0 rfl) ?_
  refine lv_sipush (v := 30077) hx hb d_M_does1_1 (by decide) ?_
  obtain ⟨M45, eM45, h⟩ := bd_ob h
  refine me_thenv0 (M1 := M45) (me_runV (C := "FilterGuardModel") (As := [.int 30077]) (rest := []) ⟨hx, hb, hml, hown, hts⟩ (c_M_setAny l D ad ca N M0 M45 j0 (30077 : Int32) eM45 hwf hj0 _) rfl (by show fg_nm y_M_setAny 1; decide +kernel) u_2138 u_2140 u_112 u_192 u_2141 ⟨Nat.le_of_ble_eq_true rfl, Nat.le_of_ble_eq_true rfl⟩ hX hz hK hP hD hwf hS hA hj0 (by decide) rfl rfl rfl hl.1 (Nat.le_of_ble_eq_true rfl) d_M_does1_4 ⟨Nat.le_of_ble_eq_true rfl, Nat.le_of_ble_eq_true rfl⟩) hP hD hK hS hA rfl rfl (fun H locs hw hP hD hS => ?_)
  obtain ⟨hwf, hk9⟩ := hw
  have hkp := hkp.tr hk9
  refine lv_iload_n hx hb d_M_does1_7 rfl (lv_at hl 1 rfl) ?_
  refine lv_bipush (v := 11) hx hb d_M_does1_8 (by decide) ?_
  refine lv_icmp_ne (tgt := 31) hx hb d_M_does1_10 (by decide) (fun c46 => ?_) (fun c46 => ?_)
  · have h := if_f c46 h
    exact b_31 M45 _ _ _ h hwf hkp hP hD hS (lv_sub hl [0, 1, 2] rfl)
  have h := if_t c46 h
  refine lv_aload_n hx hb d_M_does1_13 rfl (lv_at hl 0 rfl) ?_
  refine lv_sipush (v := 30075) hx hb d_M_does1_14 (by decide) ?_
  refine lv_sipush (v := 30076) hx hb d_M_does1_17 (by decide) ?_
  obtain ⟨M47, eM47, h⟩ := bd_ob h
  refine me_thenv0 (M1 := M47) (me_runV (C := "FilterGuardModel") (As := [.int 30075, .int 30076]) (rest := []) ⟨hx, hb, hml, hown, hts⟩ (c_M_copyNumber l D ad ca N M45 M47 j0 (30075 : Int32) (30076 : Int32) eM47 hwf hj0 _) rfl (by show fg_nm y_M_copyNumber 2; decide +kernel) u_2096 u_2098 u_103 u_192 u_2099 ⟨Nat.le_of_ble_eq_true rfl, Nat.le_of_ble_eq_true rfl⟩ hX hz hK hP hD hwf hS hA hj0 (by decide) rfl rfl rfl hl.1 (Nat.le_of_ble_eq_true rfl) d_M_does1_20 ⟨Nat.le_of_ble_eq_true rfl, Nat.le_of_ble_eq_true rfl⟩) hP hD hK hS hA rfl rfl (fun H locs hw hP hD hS => ?_)
  obtain ⟨hwf, hk9⟩ := hw
  have hkp := hkp.tr hk9
  refine lv_aload_n hx hb d_M_does1_23 rfl (lv_at hl 0 rfl) ?_
  refine lv_sipush (v := 30075) hx hb d_M_does1_24 (by decide) ?_
  refine lv_lconst (v := 0) hx hb d_M_does1_27 (by decide) ?_
  obtain ⟨M48, eM48, h⟩ := bd_ob h
  refine me_thenv0 (M1 := M48) (me_runV (C := "FilterGuardModel") (As := [.int 30075, .long 0]) (rest := []) ⟨hx, hb, hml, hown, hts⟩ (c_M_setExact l D ad ca N M47 M48 j0 (30075 : Int32) (0 : Int64) eM48 hwf hj0 _) rfl (by show fg_nm y_M_setExact 2; decide +kernel) u_2108 u_2110 u_106 u_192 u_2111 ⟨Nat.le_of_ble_eq_true rfl, Nat.le_of_ble_eq_true rfl⟩ hX hz hK hP hD hwf hS hA hj0 (by decide) rfl rfl rfl hl.1 (Nat.le_of_ble_eq_true rfl) d_M_does1_28 ⟨Nat.le_of_ble_eq_true rfl, Nat.le_of_ble_eq_true rfl⟩) hP hD hK hS hA rfl rfl (fun H locs hw hP hD hS => ?_)
  obtain ⟨hwf, hk9⟩ := hw
  have hkp := hkp.tr hk9
  exact b_31 M48 _ _ _ h hwf hkp hP hD hS (lv_sub hl [0, 1, 2] rfl)
theorem d_M_narrow_178 : decode prog_14_method_32_code 178 = .ok (.lastore, 1) := by decide +kernel
theorem d_M_narrow_179 : decode prog_14_method_32_code 179 = .ok (.aload_n 0, 1) := by decide +kernel
theorem d_M_narrow_180 : decode prog_14_method_32_code 180 = .ok (.getfield 116, 3) := by decide +kernel
theorem d_M_narrow_183 : decode prog_14_method_32_code 183 = .ok (.iload_n 1, 1) := by decide +kernel
theorem d_M_narrow_184 : decode prog_14_method_32_code 184 = .ok (.lconst 0, 1) := by decide +kernel
theorem d_M_narrow_185 : decode prog_14_method_32_code 185 = .ok (.lastore, 1) := by decide +kernel
theorem d_M_narrow_186 : decode prog_14_method_32_code 186 = .ok (.aload_n 0, 1) := by decide +kernel
theorem d_M_narrow_187 : decode prog_14_method_32_code 187 = .ok (.getfield 119, 3) := by decide +kernel
theorem d_M_narrow_190 : decode prog_14_method_32_code 190 = .ok (.iload_n 1, 1) := by decide +kernel
theorem d_M_narrow_191 : decode prog_14_method_32_code 191 = .ok (.ldc2_w 203, 3) := by decide +kernel
theorem d_M_narrow_194 : decode prog_14_method_32_code 194 = .ok (.lastore, 1) := by decide +kernel
theorem d_M_narrow_195 : decode prog_14_method_32_code 195 = .ok (.aload_n 0, 1) := by decide +kernel
theorem d_M_narrow_196 : decode prog_14_method_32_code 196 = .ok (.iload_n 1, 1) := by decide +kernel
theorem d_M_narrow_197 : decode prog_14_method_32_code 197 = .ok (.invokevirtual 264, 3) := by decide +kernel
theorem d_M_narrow_200 : decode prog_14_method_32_code 200 = .ok (.ifCond .eq 4, 3) := by decide +kernel
theorem d_M_narrow_204 : decode prog_14_method_32_code 204 = .ok (.iinc 11 1, 3) := by decide +kernel
theorem d_M_narrow_207 : decode prog_14_method_32_code 207 = .ok (.goto (-121), 3) := by decide +kernel
theorem d_M_narrow_203 : decode prog_14_method_32_code 203 = .ok (.return_, 1) := by decide +kernel
theorem d_M_narrow_175 : decode prog_14_method_32_code 175 = .ok (.ldc2_w 203, 3) := by decide +kernel
theorem d_M_narrow_151 : decode prog_14_method_32_code 151 = .ok (.lastore, 1) := by decide +kernel
theorem d_M_narrow_152 : decode prog_14_method_32_code 152 = .ok (.aload_n 0, 1) := by decide +kernel
theorem d_M_narrow_153 : decode prog_14_method_32_code 153 = .ok (.getfield 113, 3) := by decide +kernel
theorem d_M_narrow_156 : decode prog_14_method_32_code 156 = .ok (.iload_n 1, 1) := by decide +kernel
theorem d_M_narrow_157 : decode prog_14_method_32_code 157 = .ok (.iload 11, 2) := by decide +kernel
theorem d_M_narrow_159 : decode prog_14_method_32_code 159 = .ok (.ifCond .ne 16, 3) := by decide +kernel
theorem d_M_narrow_162 : decode prog_14_method_32_code 162 = .ok (.iload_n 2, 1) := by decide +kernel
theorem d_M_narrow_163 : decode prog_14_method_32_code 163 = .ok (.ifCond .eq 12, 3) := by decide +kernel
theorem d_M_narrow_166 : decode prog_14_method_32_code 166 = .ok (.lload 5, 2) := by decide +kernel
theorem d_M_narrow_168 : decode prog_14_method_32_code 168 = .ok (.ldc2_w 203, 3) := by decide +kernel
theorem d_M_narrow_171 : decode prog_14_method_32_code 171 = .ok (.land, 1) := by decide +kernel
theorem d_M_narrow_172 : decode prog_14_method_32_code 172 = .ok (.goto 6, 3) := by decide +kernel
theorem d_M_narrow_150 : decode prog_14_method_32_code 150 = .ok (.lconst 0, 1) := by decide +kernel
theorem d_M_narrow_127 : decode prog_14_method_32_code 127 = .ok (.lastore, 1) := by decide +kernel
theorem d_M_narrow_128 : decode prog_14_method_32_code 128 = .ok (.aload_n 0, 1) := by decide +kernel
theorem d_M_narrow_129 : decode prog_14_method_32_code 129 = .ok (.getfield 110, 3) := by decide +kernel
theorem d_M_narrow_132 : decode prog_14_method_32_code 132 = .ok (.iload_n 1, 1) := by decide +kernel
theorem d_M_narrow_133 : decode prog_14_method_32_code 133 = .ok (.iload 11, 2) := by decide +kernel
theorem d_M_narrow_135 : decode prog_14_method_32_code 135 = .ok (.ifCond .ne 15, 3) := by decide +kernel
theorem d_M_narrow_138 : decode prog_14_method_32_code 138 = .ok (.iload_n 2, 1) := by decide +kernel
theorem d_M_narrow_139 : decode prog_14_method_32_code 139 = .ok (.ifCond .eq 11, 3) := by decide +kernel
theorem d_M_narrow_142 : decode prog_14_method_32_code 142 = .ok (.lload_n 3, 1) := by decide +kernel
theorem d_M_narrow_143 : decode prog_14_method_32_code 143 = .ok (.ldc2_w 203, 3) := by decide +kernel
theorem d_M_narrow_146 : decode prog_14_method_32_code 146 = .ok (.land, 1) := by decide +kernel
theorem d_M_narrow_147 : decode prog_14_method_32_code 147 = .ok (.goto 4, 3) := by decide +kernel
theorem d_M_narrow_108 : decode prog_14_method_32_code 108 = .ok (.lastore, 1) := by decide +kernel
theorem d_M_narrow_109 : decode prog_14_method_32_code 109 = .ok (.aload_n 0, 1) := by decide +kernel
theorem d_M_narrow_110 : decode prog_14_method_32_code 110 = .ok (.getfield 107, 3) := by decide +kernel
theorem d_M_narrow_113 : decode prog_14_method_32_code 113 = .ok (.iload_n 1, 1) := by decide +kernel
theorem d_M_narrow_114 : decode prog_14_method_32_code 114 = .ok (.iload 11, 2) := by decide +kernel
theorem d_M_narrow_116 : decode prog_14_method_32_code 116 = .ok (.ifCond .ne 8, 3) := by decide +kernel
theorem d_M_narrow_124 : decode prog_14_method_32_code 124 = .ok (.ldc2_w 203, 3) := by decide +kernel
theorem d_M_narrow_119 : decode prog_14_method_32_code 119 = .ok (.lload 9, 2) := by decide +kernel
theorem d_M_narrow_121 : decode prog_14_method_32_code 121 = .ok (.goto 6, 3) := by decide +kernel
theorem d_M_narrow_86 : decode prog_14_method_32_code 86 = .ok (.iload 11, 2) := by decide +kernel
theorem d_M_narrow_88 : decode prog_14_method_32_code 88 = .ok (.iconst 2, 1) := by decide +kernel
theorem d_M_narrow_89 : decode prog_14_method_32_code 89 = .ok (.if_icmp .ge 121, 3) := by decide +kernel
theorem d_M_narrow_210 : decode prog_14_method_32_code 210 = .ok (.return_, 1) := by decide +kernel
theorem d_M_narrow_92 : decode prog_14_method_32_code 92 = .ok (.aload_n 0, 1) := by decide +kernel
theorem d_M_narrow_93 : decode prog_14_method_32_code 93 = .ok (.getfield 104, 3) := by decide +kernel
theorem d_M_narrow_96 : decode prog_14_method_32_code 96 = .ok (.iload_n 1, 1) := by decide +kernel
theorem d_M_narrow_97 : decode prog_14_method_32_code 97 = .ok (.iload 11, 2) := by decide +kernel
theorem d_M_narrow_99 : decode prog_14_method_32_code 99 = .ok (.ifCond .ne 8, 3) := by decide +kernel
theorem d_M_narrow_107 : decode prog_14_method_32_code 107 = .ok (.lconst 0, 1) := by decide +kernel
theorem d_M_narrow_102 : decode prog_14_method_32_code 102 = .ok (.lload 7, 2) := by decide +kernel
theorem d_M_narrow_104 : decode prog_14_method_32_code 104 = .ok (.goto 4, 3) := by decide +kernel
theorem d_M_narrow_43 : decode prog_14_method_32_code 43 = .ok (.istore_n 2, 1) := by decide +kernel
theorem d_M_narrow_44 : decode prog_14_method_32_code 44 = .ok (.aload_n 0, 1) := by decide +kernel
theorem d_M_narrow_45 : decode prog_14_method_32_code 45 = .ok (.getfield 110, 3) := by decide +kernel
theorem d_M_narrow_48 : decode prog_14_method_32_code 48 = .ok (.iload_n 1, 1) := by decide +kernel
theorem d_M_narrow_49 : decode prog_14_method_32_code 49 = .ok (.laload, 1) := by decide +kernel
theorem d_M_narrow_50 : decode prog_14_method_32_code 50 = .ok (.lstore_n 3, 1) := by decide +kernel
theorem d_M_narrow_51 : decode prog_14_method_32_code 51 = .ok (.aload_n 0, 1) := by decide +kernel
theorem d_M_narrow_52 : decode prog_14_method_32_code 52 = .ok (.getfield 113, 3) := by decide +kernel
theorem d_M_narrow_55 : decode prog_14_method_32_code 55 = .ok (.iload_n 1, 1) := by decide +kernel
theorem d_M_narrow_56 : decode prog_14_method_32_code 56 = .ok (.laload, 1) := by decide +kernel
theorem d_M_narrow_57 : decode prog_14_method_32_code 57 = .ok (.lstore 5, 2) := by decide +kernel
theorem d_M_narrow_59 : decode prog_14_method_32_code 59 = .ok (.aload_n 0, 1) := by decide +kernel
theorem d_M_narrow_60 : decode prog_14_method_32_code 60 = .ok (.getfield 104, 3) := by decide +kernel
theorem d_M_narrow_63 : decode prog_14_method_32_code 63 = .ok (.iload_n 1, 1) := by decide +kernel
theorem d_M_narrow_64 : decode prog_14_method_32_code 64 = .ok (.laload, 1) := by decide +kernel
theorem d_M_narrow_65 : decode prog_14_method_32_code 65 = .ok (.ldc2_w 203, 3) := by decide +kernel
theorem d_M_narrow_68 : decode prog_14_method_32_code 68 = .ok (.land, 1) := by decide +kernel
theorem d_M_narrow_69 : decode prog_14_method_32_code 69 = .ok (.lstore 7, 2) := by decide +kernel
theorem d_M_narrow_71 : decode prog_14_method_32_code 71 = .ok (.aload_n 0, 1) := by decide +kernel
theorem d_M_narrow_72 : decode prog_14_method_32_code 72 = .ok (.getfield 107, 3) := by decide +kernel
theorem d_M_narrow_75 : decode prog_14_method_32_code 75 = .ok (.iload_n 1, 1) := by decide +kernel
theorem d_M_narrow_76 : decode prog_14_method_32_code 76 = .ok (.laload, 1) := by decide +kernel
theorem d_M_narrow_77 : decode prog_14_method_32_code 77 = .ok (.ldc2_w 203, 3) := by decide +kernel
theorem d_M_narrow_80 : decode prog_14_method_32_code 80 = .ok (.land, 1) := by decide +kernel
theorem d_M_narrow_81 : decode prog_14_method_32_code 81 = .ok (.lstore 9, 2) := by decide +kernel
theorem d_M_narrow_83 : decode prog_14_method_32_code 83 = .ok (.iconst 0, 1) := by decide +kernel
theorem d_M_narrow_84 : decode prog_14_method_32_code 84 = .ok (.istore 11, 2) := by decide +kernel
theorem d_M_narrow_0 : decode prog_14_method_32_code 0 = .ok (.ldc2_w 203, 3) := by decide +kernel
theorem d_M_narrow_3 : decode prog_14_method_32_code 3 = .ok (.aload_n 0, 1) := by decide +kernel
theorem d_M_narrow_4 : decode prog_14_method_32_code 4 = .ok (.getfield 113, 3) := by decide +kernel
theorem d_M_narrow_7 : decode prog_14_method_32_code 7 = .ok (.iload_n 1, 1) := by decide +kernel
theorem d_M_narrow_8 : decode prog_14_method_32_code 8 = .ok (.laload, 1) := by decide +kernel
theorem d_M_narrow_9 : decode prog_14_method_32_code 9 = .ok (.invokestatic 158, 3) := by decide +kernel
theorem d_M_narrow_12 : decode prog_14_method_32_code 12 = .ok (.ifCond .ne 4, 3) := by decide +kernel
theorem d_M_narrow_16 : decode prog_14_method_32_code 16 = .ok (.aload_n 0, 1) := by decide +kernel
theorem d_M_narrow_17 : decode prog_14_method_32_code 17 = .ok (.getfield 110, 3) := by decide +kernel
theorem d_M_narrow_20 : decode prog_14_method_32_code 20 = .ok (.iload_n 1, 1) := by decide +kernel
theorem d_M_narrow_21 : decode prog_14_method_32_code 21 = .ok (.laload, 1) := by decide +kernel
theorem d_M_narrow_22 : decode prog_14_method_32_code 22 = .ok (.bipush 32, 2) := by decide +kernel
theorem d_M_narrow_24 : decode prog_14_method_32_code 24 = .ok (.lushr, 1) := by decide +kernel
theorem d_M_narrow_25 : decode prog_14_method_32_code 25 = .ok (.aload_n 0, 1) := by decide +kernel
theorem d_M_narrow_26 : decode prog_14_method_32_code 26 = .ok (.getfield 113, 3) := by decide +kernel
theorem d_M_narrow_29 : decode prog_14_method_32_code 29 = .ok (.iload_n 1, 1) := by decide +kernel
theorem d_M_narrow_30 : decode prog_14_method_32_code 30 = .ok (.laload, 1) := by decide +kernel
theorem d_M_narrow_31 : decode prog_14_method_32_code 31 = .ok (.bipush 32, 2) := by decide +kernel
theorem d_M_narrow_33 : decode prog_14_method_32_code 33 = .ok (.lushr, 1) := by decide +kernel
theorem d_M_narrow_34 : decode prog_14_method_32_code 34 = .ok (.lcmp, 1) := by decide +kernel
theorem d_M_narrow_35 : decode prog_14_method_32_code 35 = .ok (.ifCond .ne 7, 3) := by decide +kernel
theorem d_M_narrow_42 : decode prog_14_method_32_code 42 = .ok (.iconst 0, 1) := by decide +kernel
theorem d_M_narrow_38 : decode prog_14_method_32_code 38 = .ok (.iconst 1, 1) := by decide +kernel
theorem d_M_narrow_39 : decode prog_14_method_32_code 39 = .ok (.goto 4, 3) := by decide +kernel
theorem d_M_narrow_15 : decode prog_14_method_32_code 15 = .ok (.return_, 1) := by decide +kernel
abbrev y_M_narrow : MethodName := ⟨"FilterGuardModel", "narrow", "(I)V"⟩
def f_M_narrow_b178 (k86 : me_M → Int32 → Int64 → Int64 → Int64 → Int64 → Int32 → Option me_M) (j0 : Nat) (x1 : Int32) (M : me_M) (y2 : Int32) (y3 : Int64) (y5 : Int64) (y7 : Int64) (y9 : Int64) (y11 : Int32) (s0 : Int64) (s1 : Int32) (s2 : Nat) : Option me_M := gd (¬ (s1 < 0 ∨ mZ M 16 s2 ≤ s1.toNatClampNeg)) (st (wL M 16 s2 s1.toNatClampNeg s0) (fun (M2 : me_M) => bd (mR M 1 j0 56) (fun (j3 : Nat) => gd (¬ (x1 < 0 ∨ mZ M 16 j3 ≤ x1.toNatClampNeg)) (st (wL M2 16 j3 x1.toNatClampNeg (0 : Int64)) (fun (M6 : me_M) => bd (mR M 1 j0 57) (fun (j7 : Nat) => gd (¬ (x1 < 0 ∨ mZ M 16 j7 ≤ x1.toNatClampNeg)) (st (wL M6 16 j7 x1.toNatClampNeg (4294967295 : Int64)) (fun (M10 : me_M) => b2 (f_M_settle M10 j0 x1) (fun (M11 : me_M) (r12 : Int32) => (if r12 = 0 then k86 M11 y2 y3 y5 y7 y9 (y11 + 1) else some M11))))))))))
def f_M_narrow_b175 (k86 : me_M → Int32 → Int64 → Int64 → Int64 → Int64 → Int32 → Option me_M) (j0 : Nat) (x1 : Int32) (M : me_M) (y2 : Int32) (y3 : Int64) (y5 : Int64) (y7 : Int64) (y9 : Int64) (y11 : Int32) (s0 : Int32) (s1 : Nat) : Option me_M := f_M_narrow_b178 k86 j0 x1 M y2 y3 y5 y7 y9 y11 (4294967295 : Int64) s0 s1
def f_M_narrow_b151 (k86 : me_M → Int32 → Int64 → Int64 → Int64 → Int64 → Int32 → Option me_M) (j0 : Nat) (x1 : Int32) (M : me_M) (y2 : Int32) (y3 : Int64) (y5 : Int64) (y7 : Int64) (y9 : Int64) (y11 : Int32) (s0 : Int64) (s1 : Int32) (s2 : Nat) : Option me_M := gd (¬ (s1 < 0 ∨ mZ M 16 s2 ≤ s1.toNatClampNeg)) (st (wL M 16 s2 s1.toNatClampNeg s0) (fun (M15 : me_M) => bd (mR M 1 j0 55) (fun (j16 : Nat) => (if y11 = 0 then (if y2 = 0 then f_M_narrow_b175 k86 j0 x1 M15 y2 y3 y5 y7 y9 y11 x1 j16 else f_M_narrow_b178 k86 j0 x1 M15 y2 y3 y5 y7 y9 y11 (y5 &&& 4294967295) x1 j16) else f_M_narrow_b175 k86 j0 x1 M15 y2 y3 y5 y7 y9 y11 x1 j16))))
def f_M_narrow_b150 (k86 : me_M → Int32 → Int64 → Int64 → Int64 → Int64 → Int32 → Option me_M) (j0 : Nat) (x1 : Int32) (M : me_M) (y2 : Int32) (y3 : Int64) (y5 : Int64) (y7 : Int64) (y9 : Int64) (y11 : Int32) (s0 : Int32) (s1 : Nat) : Option me_M := f_M_narrow_b151 k86 j0 x1 M y2 y3 y5 y7 y9 y11 (0 : Int64) s0 s1
def f_M_narrow_b127 (k86 : me_M → Int32 → Int64 → Int64 → Int64 → Int64 → Int32 → Option me_M) (j0 : Nat) (x1 : Int32) (M : me_M) (y2 : Int32) (y3 : Int64) (y5 : Int64) (y7 : Int64) (y9 : Int64) (y11 : Int32) (s0 : Int64) (s1 : Int32) (s2 : Nat) : Option me_M := gd (¬ (s1 < 0 ∨ mZ M 16 s2 ≤ s1.toNatClampNeg)) (st (wL M 16 s2 s1.toNatClampNeg s0) (fun (M21 : me_M) => bd (mR M 1 j0 54) (fun (j22 : Nat) => (if y11 = 0 then (if y2 = 0 then f_M_narrow_b150 k86 j0 x1 M21 y2 y3 y5 y7 y9 y11 x1 j22 else f_M_narrow_b151 k86 j0 x1 M21 y2 y3 y5 y7 y9 y11 (y3 &&& 4294967295) x1 j22) else f_M_narrow_b150 k86 j0 x1 M21 y2 y3 y5 y7 y9 y11 x1 j22))))
def f_M_narrow_b108 (k86 : me_M → Int32 → Int64 → Int64 → Int64 → Int64 → Int32 → Option me_M) (j0 : Nat) (x1 : Int32) (M : me_M) (y2 : Int32) (y3 : Int64) (y5 : Int64) (y7 : Int64) (y9 : Int64) (y11 : Int32) (s0 : Int64) (s1 : Int32) (s2 : Nat) : Option me_M := gd (¬ (s1 < 0 ∨ mZ M 16 s2 ≤ s1.toNatClampNeg)) (st (wL M 16 s2 s1.toNatClampNeg s0) (fun (M27 : me_M) => bd (mR M 1 j0 53) (fun (j28 : Nat) => (if y11 = 0 then f_M_narrow_b127 k86 j0 x1 M27 y2 y3 y5 y7 y9 y11 y9 x1 j28 else f_M_narrow_b127 k86 j0 x1 M27 y2 y3 y5 y7 y9 y11 (4294967295 : Int64) x1 j28))))
def f_M_narrow_l86 (j0 : Nat) (x1 : Int32) : Nat → me_M → Int32 → Int64 → Int64 → Int64 → Int64 → Int32 → Option me_M
  | 0, _, _, _, _, _, _, _ => none
  | fu + 1, M, y2, y3, y5, y7, y9, y11 => (if 2 ≤ y11 then some M else bd (mR M 1 j0 52) (fun (j32 : Nat) => (if y11 = 0 then f_M_narrow_b108 (f_M_narrow_l86 j0 x1 fu) j0 x1 M y2 y3 y5 y7 y9 y11 y7 x1 j32 else f_M_narrow_b108 (f_M_narrow_l86 j0 x1 fu) j0 x1 M y2 y3 y5 y7 y9 y11 (0 : Int64) x1 j32)))
def f_M_narrow_b43 (j0 : Nat) (x1 : Int32) (M : me_M) (s0 : Int32) : Option me_M := bd (mR M 1 j0 54) (fun (j35 : Nat) => gd (¬ (x1 < 0 ∨ mZ M 16 j35 ≤ x1.toNatClampNeg)) (st (mL M 16 j35 x1.toNatClampNeg) (fun (v38 : Int64) => bd (mR M 1 j0 55) (fun (j39 : Nat) => gd (¬ (x1 < 0 ∨ mZ M 16 j39 ≤ x1.toNatClampNeg)) (st (mL M 16 j39 x1.toNatClampNeg) (fun (v42 : Int64) => bd (mR M 1 j0 52) (fun (j43 : Nat) => gd (¬ (x1 < 0 ∨ mZ M 16 j43 ≤ x1.toNatClampNeg)) (st ((mL M 16 j43 x1.toNatClampNeg) &&& 4294967295) (fun (v46 : Int64) => bd (mR M 1 j0 53) (fun (j47 : Nat) => gd (¬ (x1 < 0 ∨ mZ M 16 j47 ≤ x1.toNatClampNeg)) (st ((mL M 16 j47 x1.toNatClampNeg) &&& 4294967295) (fun (v50 : Int64) => f_M_narrow_l86 j0 x1 fuel M s0 v38 v42 v46 v50 (0 : Int32)))))))))))))
def f_M_narrow (M0 : me_M) (j0 : Nat) (x1 : Int32) : Option me_M := bd (mR M0 1 j0 55) (fun (j51 : Nat) => gd (¬ (x1 < 0 ∨ mZ M0 16 j51 ≤ x1.toNatClampNeg)) (bd (f_M_below (4294967295 : Int64) (mL M0 16 j51 x1.toNatClampNeg)) (fun (r54 : Int32) => (if r54 = 0 then some M0 else bd (mR M0 1 j0 54) (fun (j56 : Nat) => gd (¬ (x1 < 0 ∨ mZ M0 16 j56 ≤ x1.toNatClampNeg)) ((if (jlushr (mL M0 16 j56 x1.toNatClampNeg) (32 : Int32)) = (jlushr (mL M0 16 j51 x1.toNatClampNeg) (32 : Int32)) then f_M_narrow_b43 j0 x1 M0 (1 : Int32) else f_M_narrow_b43 j0 x1 M0 (0 : Int32))))))))
def rm_M_narrow : Room := { frames := 5, cells := 0, slots := 0, locals := 110 }
abbrev q_M_narrow (D : va_G) (ad : Nat → Nat → Nat) (ca : Nat → ClassId) (N : Nat → Nat) (M0 MZ : me_M) (A : Nat → Prop) : Array Value → Jvm.State → Outcome → Jvm.State → Prop := va_Qv (fun (_ : Unit) => me_wf N MZ ∧ me_kp M0 MZ) (fg_B D A (fun _ => me_W ad ca MZ) (fun _ => [])) A
set_option maxHeartbeats 4000000 in
set_option maxRecDepth 100000 in
theorem c_M_narrow (l : Launch) (D : va_G) (ad : Nat → Nat → Nat) (ca : Nat → ClassId) (N : Nat → Nat) (M0 MZ : me_M) (j0 : Nat) (x1 : Int32) (h : f_M_narrow M0 j0 x1 = (some MZ)) (hwf : me_wf N M0) (hj0 : j0 < N 1) (sz : Nat) : Met l y_M_narrow (fg_w y_M_narrow prog_14_method_32_code 12 none) rm_M_narrow (va_Pc [.ref (ad 1 j0), .int x1] (fz_P D (me_T ca) (me_W ad ca M0) sz)) (q_M_narrow D ad ca N M0 MZ (va_A (me_W ad ca M0) sz)) rm_M_narrow.cells rm_M_narrow.slots (va_A (me_W ad ca M0) sz) := by
  refine fz_enter (fun A => q_M_narrow D ad ca N M0 MZ A) (by decide +kernel) (Nat.le_of_ble_eq_true rfl) ?_
  intro p e s m below meth c ls A hx hb hml hown hts hr hlocks hin hP hK hD hS hA hX hl hz
  have hl : lv_has ls 12 [(0, .ref (ad 1 j0)), (1, .int x1)] := hl
  unfold f_M_narrow at h
  have hkp : me_kp M0 M0 := me_kp.rf
  have hkb := hkp
  have b_178 : ∀ (k86 : me_M → Int32 → Int64 → Int64 → Int64 → Int64 → Int32 → Option me_M) (hk86 : ∀ (M : me_M) (y2 : Int32) (y3 : Int64) (y5 : Int64) (y7 : Int64) (y9 : Int64) (y11 : Int32) (H : Heap) (locs : List Loc) (ls : Array Slot), k86 M y2 y3 y5 y7 y9 y11 = (some MZ) → (y2 = 1 ∨ y2 = 0) → me_wf N M → me_kp M0 M → va_P D classes (me_W ad ca M) H → va_D A (me_W ad ca M) → va_S A s.heap H locs → lv_has ls 12 [(0, .ref (ad 1 j0)), (1, .int x1), (2, .int y2), (3, .long y3), (5, .long y5), (7, .long y7), (9, .long y9), (11, .int y11)] → W p l e rm_M_narrow s m [.ref (ad 1 j0), .int x1].toArray below meth c H locs 0 0 (MQ below (q_M_narrow D ad ca N M0 MZ A) [.ref (ad 1 j0), .int x1].toArray s rm_M_narrow.cells rm_M_narrow.slots A) (F0 m 86 ls [])), ∀ (M : me_M) (y2 : Int32) (y3 : Int64) (y5 : Int64) (y7 : Int64) (y9 : Int64) (y11 : Int32) (s0 : Int64) (s1 : Int32) (s2 : Nat) (H : Heap) (locs : List Loc) (ls : Array Slot), f_M_narrow_b178 k86 j0 x1 M y2 y3 y5 y7 y9 y11 s0 s1 s2 = (some MZ) → (y2 = 1 ∨ y2 = 0) → (s2 < N 16) → me_wf N M → me_kp M0 M → va_P D classes (me_W ad ca M) H → va_D A (me_W ad ca M) → va_S A s.heap H locs → lv_has ls 12 [(0, .ref (ad 1 j0)), (1, .int x1), (2, .int y2), (3, .long y3), (5, .long y5), (7, .long y7), (9, .long y9), (11, .int y11)] → W p l e rm_M_narrow s m [.ref (ad 1 j0), .int x1].toArray below meth c H locs 0 0 (MQ below (q_M_narrow D ad ca N M0 MZ A) [.ref (ad 1 j0), .int x1].toArray s rm_M_narrow.cells rm_M_narrow.slots A) (F0 m 178 ls [.long s0, .int s1, .ref (ad 16 s2)]) := by
    intro k86 hk86 M y2 y3 y5 y7 y9 y11 s0 s1 s2 H locs ls h zy2 hs2 hwf hkp hP hD hS hl
    unfold f_M_narrow_b178 at h
    have hkb := hkp
    obtain ⟨g1, h⟩ := gd_ob h
    obtain ⟨M2, eM2, h⟩ := st_ob h
    refine me_last eM2 hx hb hK hP hD hwf hS hs2 g1 d_M_narrow_178 (fun H locs hP hD hwf hS => ?_)
    have hkp := kp_L eM2 hkp
    refine lv_aload_n hx hb d_M_narrow_179 rfl (lv_at hl 0 rfl) ?_
    refine g_M_56 hx hb hts hown hK hP hwf hj0 (hts _ u_1797) d_M_narrow_180 ?_
    obtain ⟨j3, e4, h⟩ := bd_ob h
    have hj3 : j3 < N 16 := (hwf.2.1 1 j0 56 _ (kp_r hkb hkp e4) (by decide) hj0)
    refine me_opt (j := j3) (kp_r hkb hkp e4) ?_
    refine lv_iload_n hx hb d_M_narrow_183 rfl (lv_at hl 1 rfl) ?_
    refine lv_lconst (v := 0) hx hb d_M_narrow_184 (by decide) ?_
    obtain ⟨g5, h⟩ := gd_ob h
    obtain ⟨M6, eM6, h⟩ := st_ob h
    refine me_last eM6 hx hb hK hP hD hwf hS hj3 (kp_z hkb.z hkp.z g5) d_M_narrow_185 (fun H locs hP hD hwf hS => ?_)
    have hkp := kp_L eM6 hkp
    refine lv_aload_n hx hb d_M_narrow_186 rfl (lv_at hl 0 rfl) ?_
    refine g_M_57 hx hb hts hown hK hP hwf hj0 (hts _ u_1798) d_M_narrow_187 ?_
    obtain ⟨j7, e8, h⟩ := bd_ob h
    have hj7 : j7 < N 16 := (hwf.2.1 1 j0 57 _ (kp_r hkb hkp e8) (by decide) hj0)
    refine me_opt (j := j7) (kp_r hkb hkp e8) ?_
    refine lv_iload_n hx hb d_M_narrow_190 rfl (lv_at hl 1 rfl) ?_
    refine lv_ldc2 hx hb hown (hts _ u_2019) d_M_narrow_191 ?_
    obtain ⟨g9, h⟩ := gd_ob h
    obtain ⟨M10, eM10, h⟩ := st_ob h
    refine me_last eM10 hx hb hK hP hD hwf hS hj7 (kp_z hkb.z hkp.z g9) d_M_narrow_194 (fun H locs hP hD hwf hS => ?_)
    have hkp := kp_L eM10 hkp
    refine lv_aload_n hx hb d_M_narrow_195 rfl (lv_at hl 0 rfl) ?_
    refine lv_iload_n hx hb d_M_narrow_196 rfl (lv_at hl 1 rfl) ?_
    obtain ⟨M11, r12, eM11, h⟩ := b2_ob h
    refine me_theni0 (M1 := M11) (me_runV (C := "FilterGuardModel") (As := [.int x1]) (rest := []) ⟨hx, hb, hml, hown, hts⟩ (c_M_settle l D ad ca N M10 M11 r12 j0 x1 eM11 hwf hj0 _) rfl (by show fg_nm y_M_settle 1; decide +kernel) u_2143 u_2145 u_113 u_192 u_2146 ⟨Nat.le_of_ble_eq_true rfl, Nat.le_of_ble_eq_true rfl⟩ hX hz hK hP hD hwf hS hA hj0 (by decide) rfl rfl rfl hl.1 (Nat.le_of_ble_eq_true rfl) d_M_narrow_197 ⟨Nat.le_of_ble_eq_true rfl, Nat.le_of_ble_eq_true rfl⟩) hP hD hK hS hA rfl rfl (fun H locs hw hP hD hS => ?_)
    obtain ⟨hwf, hk9, zr12⟩ := hw
    have hkp := hkp.tr hk9
    refine lv_if_eq (tgt := 204) hx hb d_M_narrow_200 (by decide) (fun c13 => ?_) (fun c13 => ?_)
    · have h := if_t c13 h
      refine lv_iinc (v := y11 + 1) (lv' := [(11, .int (y11 + 1)), (0, .ref (ad 1 j0)), (1, .int x1), (2, .int y2), (3, .long y3), (5, .long y5), (7, .long y7), (9, .long y9)]) hx hb d_M_narrow_204 hl (k := 7) rfl (by rfl) (by decide) rfl (fun ls hl => ?_)
      refine lv_goto (tgt := 86) hx hb d_M_narrow_207 (by decide) ?_
      exact hk86 M11 y2 y3 y5 y7 y9 (y11 + 1) _ _ _ h zy2 hwf hkp hP hD hS (lv_sub hl [1, 2, 3, 4, 5, 6, 7, 0] rfl)
    have h := if_f c13 h
    cases h
    exact fg_retv () hx hb hr hlocks ⟨hwf, hkp⟩ hP (hK.sub (tys' := []) [] rfl) hD hS (Nat.le_of_ble_eq_true rfl) (Nat.le_of_ble_eq_true rfl) d_M_narrow_203
  have b_175 : ∀ (k86 : me_M → Int32 → Int64 → Int64 → Int64 → Int64 → Int32 → Option me_M) (hk86 : ∀ (M : me_M) (y2 : Int32) (y3 : Int64) (y5 : Int64) (y7 : Int64) (y9 : Int64) (y11 : Int32) (H : Heap) (locs : List Loc) (ls : Array Slot), k86 M y2 y3 y5 y7 y9 y11 = (some MZ) → (y2 = 1 ∨ y2 = 0) → me_wf N M → me_kp M0 M → va_P D classes (me_W ad ca M) H → va_D A (me_W ad ca M) → va_S A s.heap H locs → lv_has ls 12 [(0, .ref (ad 1 j0)), (1, .int x1), (2, .int y2), (3, .long y3), (5, .long y5), (7, .long y7), (9, .long y9), (11, .int y11)] → W p l e rm_M_narrow s m [.ref (ad 1 j0), .int x1].toArray below meth c H locs 0 0 (MQ below (q_M_narrow D ad ca N M0 MZ A) [.ref (ad 1 j0), .int x1].toArray s rm_M_narrow.cells rm_M_narrow.slots A) (F0 m 86 ls [])), ∀ (M : me_M) (y2 : Int32) (y3 : Int64) (y5 : Int64) (y7 : Int64) (y9 : Int64) (y11 : Int32) (s0 : Int32) (s1 : Nat) (H : Heap) (locs : List Loc) (ls : Array Slot), f_M_narrow_b175 k86 j0 x1 M y2 y3 y5 y7 y9 y11 s0 s1 = (some MZ) → (y2 = 1 ∨ y2 = 0) → (s1 < N 16) → me_wf N M → me_kp M0 M → va_P D classes (me_W ad ca M) H → va_D A (me_W ad ca M) → va_S A s.heap H locs → lv_has ls 12 [(0, .ref (ad 1 j0)), (1, .int x1), (2, .int y2), (3, .long y3), (5, .long y5), (7, .long y7), (9, .long y9), (11, .int y11)] → W p l e rm_M_narrow s m [.ref (ad 1 j0), .int x1].toArray below meth c H locs 0 0 (MQ below (q_M_narrow D ad ca N M0 MZ A) [.ref (ad 1 j0), .int x1].toArray s rm_M_narrow.cells rm_M_narrow.slots A) (F0 m 175 ls [.int s0, .ref (ad 16 s1)]) := by
    intro k86 hk86 M y2 y3 y5 y7 y9 y11 s0 s1 H locs ls h zy2 hs1 hwf hkp hP hD hS hl
    unfold f_M_narrow_b175 at h
    have hkb := hkp
    refine lv_ldc2 hx hb hown (hts _ u_2019) d_M_narrow_175 ?_
    exact b_178 _ hk86 M y2 y3 y5 y7 y9 y11 (4294967295 : Int64) s0 s1 _ _ _ h zy2 hs1 hwf hkp hP hD hS (lv_sub hl [0, 1, 2, 3, 4, 5, 6, 7] rfl)
  have b_151 : ∀ (k86 : me_M → Int32 → Int64 → Int64 → Int64 → Int64 → Int32 → Option me_M) (hk86 : ∀ (M : me_M) (y2 : Int32) (y3 : Int64) (y5 : Int64) (y7 : Int64) (y9 : Int64) (y11 : Int32) (H : Heap) (locs : List Loc) (ls : Array Slot), k86 M y2 y3 y5 y7 y9 y11 = (some MZ) → (y2 = 1 ∨ y2 = 0) → me_wf N M → me_kp M0 M → va_P D classes (me_W ad ca M) H → va_D A (me_W ad ca M) → va_S A s.heap H locs → lv_has ls 12 [(0, .ref (ad 1 j0)), (1, .int x1), (2, .int y2), (3, .long y3), (5, .long y5), (7, .long y7), (9, .long y9), (11, .int y11)] → W p l e rm_M_narrow s m [.ref (ad 1 j0), .int x1].toArray below meth c H locs 0 0 (MQ below (q_M_narrow D ad ca N M0 MZ A) [.ref (ad 1 j0), .int x1].toArray s rm_M_narrow.cells rm_M_narrow.slots A) (F0 m 86 ls [])), ∀ (M : me_M) (y2 : Int32) (y3 : Int64) (y5 : Int64) (y7 : Int64) (y9 : Int64) (y11 : Int32) (s0 : Int64) (s1 : Int32) (s2 : Nat) (H : Heap) (locs : List Loc) (ls : Array Slot), f_M_narrow_b151 k86 j0 x1 M y2 y3 y5 y7 y9 y11 s0 s1 s2 = (some MZ) → (y2 = 1 ∨ y2 = 0) → (s2 < N 16) → me_wf N M → me_kp M0 M → va_P D classes (me_W ad ca M) H → va_D A (me_W ad ca M) → va_S A s.heap H locs → lv_has ls 12 [(0, .ref (ad 1 j0)), (1, .int x1), (2, .int y2), (3, .long y3), (5, .long y5), (7, .long y7), (9, .long y9), (11, .int y11)] → W p l e rm_M_narrow s m [.ref (ad 1 j0), .int x1].toArray below meth c H locs 0 0 (MQ below (q_M_narrow D ad ca N M0 MZ A) [.ref (ad 1 j0), .int x1].toArray s rm_M_narrow.cells rm_M_narrow.slots A) (F0 m 151 ls [.long s0, .int s1, .ref (ad 16 s2)]) := by
    intro k86 hk86 M y2 y3 y5 y7 y9 y11 s0 s1 s2 H locs ls h zy2 hs2 hwf hkp hP hD hS hl
    unfold f_M_narrow_b151 at h
    have hkb := hkp
    obtain ⟨g14, h⟩ := gd_ob h
    obtain ⟨M15, eM15, h⟩ := st_ob h
    refine me_last eM15 hx hb hK hP hD hwf hS hs2 g14 d_M_narrow_151 (fun H locs hP hD hwf hS => ?_)
    have hkp := kp_L eM15 hkp
    refine lv_aload_n hx hb d_M_narrow_152 rfl (lv_at hl 0 rfl) ?_
    refine g_M_55 hx hb hts hown hK hP hwf hj0 (hts _ u_1796) d_M_narrow_153 ?_
    obtain ⟨j16, e17, h⟩ := bd_ob h
    have hj16 : j16 < N 16 := (hwf.2.1 1 j0 55 _ (kp_r hkb hkp e17) (by decide) hj0)
    refine me_opt (j := j16) (kp_r hkb hkp e17) ?_
    refine lv_iload_n hx hb d_M_narrow_156 rfl (lv_at hl 1 rfl) ?_
    refine lv_iload hx hb d_M_narrow_157 (lv_at hl 7 rfl) ?_
    refine lv_if_ne (tgt := 175) hx hb d_M_narrow_159 (by decide) (fun c18 => ?_) (fun c18 => ?_)
    · have h := if_f c18 h
      exact b_175 _ hk86 M15 y2 y3 y5 y7 y9 y11 x1 j16 _ _ _ h zy2 hj16 hwf hkp hP hD hS (lv_sub hl [0, 1, 2, 3, 4, 5, 6, 7] rfl)
    have h := if_t c18 h
    refine lv_iload_n hx hb d_M_narrow_162 rfl (lv_at hl 2 rfl) ?_
    refine lv_if_eq (tgt := 175) hx hb d_M_narrow_163 (by decide) (fun c19 => ?_) (fun c19 => ?_)
    · have h := if_t c19 h
      exact b_175 _ hk86 M15 y2 y3 y5 y7 y9 y11 x1 j16 _ _ _ h zy2 hj16 hwf hkp hP hD hS (lv_sub hl [0, 1, 2, 3, 4, 5, 6, 7] rfl)
    have h := if_f c19 h
    refine lv_lload hx hb d_M_narrow_166 (lv_at hl 4 rfl) ?_
    refine lv_ldc2 hx hb hown (hts _ u_2019) d_M_narrow_168 ?_
    refine lv_land hx hb d_M_narrow_171 ?_
    refine lv_goto (tgt := 178) hx hb d_M_narrow_172 (by decide) ?_
    exact b_178 _ hk86 M15 y2 y3 y5 y7 y9 y11 (y5 &&& 4294967295) x1 j16 _ _ _ h zy2 hj16 hwf hkp hP hD hS (lv_sub hl [0, 1, 2, 3, 4, 5, 6, 7] rfl)
  have b_150 : ∀ (k86 : me_M → Int32 → Int64 → Int64 → Int64 → Int64 → Int32 → Option me_M) (hk86 : ∀ (M : me_M) (y2 : Int32) (y3 : Int64) (y5 : Int64) (y7 : Int64) (y9 : Int64) (y11 : Int32) (H : Heap) (locs : List Loc) (ls : Array Slot), k86 M y2 y3 y5 y7 y9 y11 = (some MZ) → (y2 = 1 ∨ y2 = 0) → me_wf N M → me_kp M0 M → va_P D classes (me_W ad ca M) H → va_D A (me_W ad ca M) → va_S A s.heap H locs → lv_has ls 12 [(0, .ref (ad 1 j0)), (1, .int x1), (2, .int y2), (3, .long y3), (5, .long y5), (7, .long y7), (9, .long y9), (11, .int y11)] → W p l e rm_M_narrow s m [.ref (ad 1 j0), .int x1].toArray below meth c H locs 0 0 (MQ below (q_M_narrow D ad ca N M0 MZ A) [.ref (ad 1 j0), .int x1].toArray s rm_M_narrow.cells rm_M_narrow.slots A) (F0 m 86 ls [])), ∀ (M : me_M) (y2 : Int32) (y3 : Int64) (y5 : Int64) (y7 : Int64) (y9 : Int64) (y11 : Int32) (s0 : Int32) (s1 : Nat) (H : Heap) (locs : List Loc) (ls : Array Slot), f_M_narrow_b150 k86 j0 x1 M y2 y3 y5 y7 y9 y11 s0 s1 = (some MZ) → (y2 = 1 ∨ y2 = 0) → (s1 < N 16) → me_wf N M → me_kp M0 M → va_P D classes (me_W ad ca M) H → va_D A (me_W ad ca M) → va_S A s.heap H locs → lv_has ls 12 [(0, .ref (ad 1 j0)), (1, .int x1), (2, .int y2), (3, .long y3), (5, .long y5), (7, .long y7), (9, .long y9), (11, .int y11)] → W p l e rm_M_narrow s m [.ref (ad 1 j0), .int x1].toArray below meth c H locs 0 0 (MQ below (q_M_narrow D ad ca N M0 MZ A) [.ref (ad 1 j0), .int x1].toArray s rm_M_narrow.cells rm_M_narrow.slots A) (F0 m 150 ls [.int s0, .ref (ad 16 s1)]) := by
    intro k86 hk86 M y2 y3 y5 y7 y9 y11 s0 s1 H locs ls h zy2 hs1 hwf hkp hP hD hS hl
    unfold f_M_narrow_b150 at h
    have hkb := hkp
    refine lv_lconst (v := 0) hx hb d_M_narrow_150 (by decide) ?_
    exact b_151 _ hk86 M y2 y3 y5 y7 y9 y11 (0 : Int64) s0 s1 _ _ _ h zy2 hs1 hwf hkp hP hD hS (lv_sub hl [0, 1, 2, 3, 4, 5, 6, 7] rfl)
  have b_127 : ∀ (k86 : me_M → Int32 → Int64 → Int64 → Int64 → Int64 → Int32 → Option me_M) (hk86 : ∀ (M : me_M) (y2 : Int32) (y3 : Int64) (y5 : Int64) (y7 : Int64) (y9 : Int64) (y11 : Int32) (H : Heap) (locs : List Loc) (ls : Array Slot), k86 M y2 y3 y5 y7 y9 y11 = (some MZ) → (y2 = 1 ∨ y2 = 0) → me_wf N M → me_kp M0 M → va_P D classes (me_W ad ca M) H → va_D A (me_W ad ca M) → va_S A s.heap H locs → lv_has ls 12 [(0, .ref (ad 1 j0)), (1, .int x1), (2, .int y2), (3, .long y3), (5, .long y5), (7, .long y7), (9, .long y9), (11, .int y11)] → W p l e rm_M_narrow s m [.ref (ad 1 j0), .int x1].toArray below meth c H locs 0 0 (MQ below (q_M_narrow D ad ca N M0 MZ A) [.ref (ad 1 j0), .int x1].toArray s rm_M_narrow.cells rm_M_narrow.slots A) (F0 m 86 ls [])), ∀ (M : me_M) (y2 : Int32) (y3 : Int64) (y5 : Int64) (y7 : Int64) (y9 : Int64) (y11 : Int32) (s0 : Int64) (s1 : Int32) (s2 : Nat) (H : Heap) (locs : List Loc) (ls : Array Slot), f_M_narrow_b127 k86 j0 x1 M y2 y3 y5 y7 y9 y11 s0 s1 s2 = (some MZ) → (y2 = 1 ∨ y2 = 0) → (s2 < N 16) → me_wf N M → me_kp M0 M → va_P D classes (me_W ad ca M) H → va_D A (me_W ad ca M) → va_S A s.heap H locs → lv_has ls 12 [(0, .ref (ad 1 j0)), (1, .int x1), (2, .int y2), (3, .long y3), (5, .long y5), (7, .long y7), (9, .long y9), (11, .int y11)] → W p l e rm_M_narrow s m [.ref (ad 1 j0), .int x1].toArray below meth c H locs 0 0 (MQ below (q_M_narrow D ad ca N M0 MZ A) [.ref (ad 1 j0), .int x1].toArray s rm_M_narrow.cells rm_M_narrow.slots A) (F0 m 127 ls [.long s0, .int s1, .ref (ad 16 s2)]) := by
    intro k86 hk86 M y2 y3 y5 y7 y9 y11 s0 s1 s2 H locs ls h zy2 hs2 hwf hkp hP hD hS hl
    unfold f_M_narrow_b127 at h
    have hkb := hkp
    obtain ⟨g20, h⟩ := gd_ob h
    obtain ⟨M21, eM21, h⟩ := st_ob h
    refine me_last eM21 hx hb hK hP hD hwf hS hs2 g20 d_M_narrow_127 (fun H locs hP hD hwf hS => ?_)
    have hkp := kp_L eM21 hkp
    refine lv_aload_n hx hb d_M_narrow_128 rfl (lv_at hl 0 rfl) ?_
    refine g_M_54 hx hb hts hown hK hP hwf hj0 (hts _ u_1795) d_M_narrow_129 ?_
    obtain ⟨j22, e23, h⟩ := bd_ob h
    have hj22 : j22 < N 16 := (hwf.2.1 1 j0 54 _ (kp_r hkb hkp e23) (by decide) hj0)
    refine me_opt (j := j22) (kp_r hkb hkp e23) ?_
    refine lv_iload_n hx hb d_M_narrow_132 rfl (lv_at hl 1 rfl) ?_
    refine lv_iload hx hb d_M_narrow_133 (lv_at hl 7 rfl) ?_
    refine lv_if_ne (tgt := 150) hx hb d_M_narrow_135 (by decide) (fun c24 => ?_) (fun c24 => ?_)
    · have h := if_f c24 h
      exact b_150 _ hk86 M21 y2 y3 y5 y7 y9 y11 x1 j22 _ _ _ h zy2 hj22 hwf hkp hP hD hS (lv_sub hl [0, 1, 2, 3, 4, 5, 6, 7] rfl)
    have h := if_t c24 h
    refine lv_iload_n hx hb d_M_narrow_138 rfl (lv_at hl 2 rfl) ?_
    refine lv_if_eq (tgt := 150) hx hb d_M_narrow_139 (by decide) (fun c25 => ?_) (fun c25 => ?_)
    · have h := if_t c25 h
      exact b_150 _ hk86 M21 y2 y3 y5 y7 y9 y11 x1 j22 _ _ _ h zy2 hj22 hwf hkp hP hD hS (lv_sub hl [0, 1, 2, 3, 4, 5, 6, 7] rfl)
    have h := if_f c25 h
    refine lv_lload_n hx hb d_M_narrow_142 rfl (lv_at hl 3 rfl) ?_
    refine lv_ldc2 hx hb hown (hts _ u_2019) d_M_narrow_143 ?_
    refine lv_land hx hb d_M_narrow_146 ?_
    refine lv_goto (tgt := 151) hx hb d_M_narrow_147 (by decide) ?_
    exact b_151 _ hk86 M21 y2 y3 y5 y7 y9 y11 (y3 &&& 4294967295) x1 j22 _ _ _ h zy2 hj22 hwf hkp hP hD hS (lv_sub hl [0, 1, 2, 3, 4, 5, 6, 7] rfl)
  have b_108 : ∀ (k86 : me_M → Int32 → Int64 → Int64 → Int64 → Int64 → Int32 → Option me_M) (hk86 : ∀ (M : me_M) (y2 : Int32) (y3 : Int64) (y5 : Int64) (y7 : Int64) (y9 : Int64) (y11 : Int32) (H : Heap) (locs : List Loc) (ls : Array Slot), k86 M y2 y3 y5 y7 y9 y11 = (some MZ) → (y2 = 1 ∨ y2 = 0) → me_wf N M → me_kp M0 M → va_P D classes (me_W ad ca M) H → va_D A (me_W ad ca M) → va_S A s.heap H locs → lv_has ls 12 [(0, .ref (ad 1 j0)), (1, .int x1), (2, .int y2), (3, .long y3), (5, .long y5), (7, .long y7), (9, .long y9), (11, .int y11)] → W p l e rm_M_narrow s m [.ref (ad 1 j0), .int x1].toArray below meth c H locs 0 0 (MQ below (q_M_narrow D ad ca N M0 MZ A) [.ref (ad 1 j0), .int x1].toArray s rm_M_narrow.cells rm_M_narrow.slots A) (F0 m 86 ls [])), ∀ (M : me_M) (y2 : Int32) (y3 : Int64) (y5 : Int64) (y7 : Int64) (y9 : Int64) (y11 : Int32) (s0 : Int64) (s1 : Int32) (s2 : Nat) (H : Heap) (locs : List Loc) (ls : Array Slot), f_M_narrow_b108 k86 j0 x1 M y2 y3 y5 y7 y9 y11 s0 s1 s2 = (some MZ) → (y2 = 1 ∨ y2 = 0) → (s2 < N 16) → me_wf N M → me_kp M0 M → va_P D classes (me_W ad ca M) H → va_D A (me_W ad ca M) → va_S A s.heap H locs → lv_has ls 12 [(0, .ref (ad 1 j0)), (1, .int x1), (2, .int y2), (3, .long y3), (5, .long y5), (7, .long y7), (9, .long y9), (11, .int y11)] → W p l e rm_M_narrow s m [.ref (ad 1 j0), .int x1].toArray below meth c H locs 0 0 (MQ below (q_M_narrow D ad ca N M0 MZ A) [.ref (ad 1 j0), .int x1].toArray s rm_M_narrow.cells rm_M_narrow.slots A) (F0 m 108 ls [.long s0, .int s1, .ref (ad 16 s2)]) := by
    intro k86 hk86 M y2 y3 y5 y7 y9 y11 s0 s1 s2 H locs ls h zy2 hs2 hwf hkp hP hD hS hl
    unfold f_M_narrow_b108 at h
    have hkb := hkp
    obtain ⟨g26, h⟩ := gd_ob h
    obtain ⟨M27, eM27, h⟩ := st_ob h
    refine me_last eM27 hx hb hK hP hD hwf hS hs2 g26 d_M_narrow_108 (fun H locs hP hD hwf hS => ?_)
    have hkp := kp_L eM27 hkp
    refine lv_aload_n hx hb d_M_narrow_109 rfl (lv_at hl 0 rfl) ?_
    refine g_M_53 hx hb hts hown hK hP hwf hj0 (hts _ u_1794) d_M_narrow_110 ?_
    obtain ⟨j28, e29, h⟩ := bd_ob h
    have hj28 : j28 < N 16 := (hwf.2.1 1 j0 53 _ (kp_r hkb hkp e29) (by decide) hj0)
    refine me_opt (j := j28) (kp_r hkb hkp e29) ?_
    refine lv_iload_n hx hb d_M_narrow_113 rfl (lv_at hl 1 rfl) ?_
    refine lv_iload hx hb d_M_narrow_114 (lv_at hl 7 rfl) ?_
    refine lv_if_ne (tgt := 124) hx hb d_M_narrow_116 (by decide) (fun c30 => ?_) (fun c30 => ?_)
    · have h := if_f c30 h
      refine lv_ldc2 hx hb hown (hts _ u_2019) d_M_narrow_124 ?_
      exact b_127 _ hk86 M27 y2 y3 y5 y7 y9 y11 (4294967295 : Int64) x1 j28 _ _ _ h zy2 hj28 hwf hkp hP hD hS (lv_sub hl [0, 1, 2, 3, 4, 5, 6, 7] rfl)
    have h := if_t c30 h
    refine lv_lload hx hb d_M_narrow_119 (lv_at hl 6 rfl) ?_
    refine lv_goto (tgt := 127) hx hb d_M_narrow_121 (by decide) ?_
    exact b_127 _ hk86 M27 y2 y3 y5 y7 y9 y11 y9 x1 j28 _ _ _ h zy2 hj28 hwf hkp hP hD hS (lv_sub hl [0, 1, 2, 3, 4, 5, 6, 7] rfl)
  have b_86 : ∀ (fu : Nat), ∀ (M : me_M) (y2 : Int32) (y3 : Int64) (y5 : Int64) (y7 : Int64) (y9 : Int64) (y11 : Int32) (H : Heap) (locs : List Loc) (ls : Array Slot), f_M_narrow_l86 j0 x1 fu M y2 y3 y5 y7 y9 y11 = (some MZ) → (y2 = 1 ∨ y2 = 0) → me_wf N M → me_kp M0 M → va_P D classes (me_W ad ca M) H → va_D A (me_W ad ca M) → va_S A s.heap H locs → lv_has ls 12 [(0, .ref (ad 1 j0)), (1, .int x1), (2, .int y2), (3, .long y3), (5, .long y5), (7, .long y7), (9, .long y9), (11, .int y11)] → W p l e rm_M_narrow s m [.ref (ad 1 j0), .int x1].toArray below meth c H locs 0 0 (MQ below (q_M_narrow D ad ca N M0 MZ A) [.ref (ad 1 j0), .int x1].toArray s rm_M_narrow.cells rm_M_narrow.slots A) (F0 m 86 ls []) := by
    intro fu
    induction fu with
    | zero =>
      intro M y2 y3 y5 y7 y9 y11 H locs ls h zy2 hwf hkp hP hD hS hl
      cases h
    | succ fu ih =>
      intro M y2 y3 y5 y7 y9 y11 H locs ls h zy2 hwf hkp hP hD hS hl
      unfold f_M_narrow_l86 at h
      have hkb := hkp
      refine lv_iload hx hb d_M_narrow_86 (lv_at hl 7 rfl) ?_
      refine lv_iconst (v := 2) hx hb d_M_narrow_88 (by decide) ?_
      refine lv_icmp_ge (tgt := 210) hx hb d_M_narrow_89 (by decide) (fun c31 => ?_) (fun c31 => ?_)
      · have h := if_t c31 h
        cases h
        exact fg_retv () hx hb hr hlocks ⟨hwf, hkp⟩ hP (hK.sub (tys' := []) [] rfl) hD hS (Nat.le_of_ble_eq_true rfl) (Nat.le_of_ble_eq_true rfl) d_M_narrow_210
      have h := if_f c31 h
      refine lv_aload_n hx hb d_M_narrow_92 rfl (lv_at hl 0 rfl) ?_
      refine g_M_52 hx hb hts hown hK hP hwf hj0 (hts _ u_1793) d_M_narrow_93 ?_
      obtain ⟨j32, e33, h⟩ := bd_ob h
      have hj32 : j32 < N 16 := (hwf.2.1 1 j0 52 _ e33 (by decide) hj0)
      refine me_opt (j := j32) e33 ?_
      refine lv_iload_n hx hb d_M_narrow_96 rfl (lv_at hl 1 rfl) ?_
      refine lv_iload hx hb d_M_narrow_97 (lv_at hl 7 rfl) ?_
      refine lv_if_ne (tgt := 107) hx hb d_M_narrow_99 (by decide) (fun c34 => ?_) (fun c34 => ?_)
      · have h := if_f c34 h
        refine lv_lconst (v := 0) hx hb d_M_narrow_107 (by decide) ?_
        exact b_108 _ ih M y2 y3 y5 y7 y9 y11 (0 : Int64) x1 j32 _ _ _ h zy2 hj32 hwf hkp hP hD hS (lv_sub hl [0, 1, 2, 3, 4, 5, 6, 7] rfl)
      have h := if_t c34 h
      refine lv_lload hx hb d_M_narrow_102 (lv_at hl 5 rfl) ?_
      refine lv_goto (tgt := 108) hx hb d_M_narrow_104 (by decide) ?_
      exact b_108 _ ih M y2 y3 y5 y7 y9 y11 y7 x1 j32 _ _ _ h zy2 hj32 hwf hkp hP hD hS (lv_sub hl [0, 1, 2, 3, 4, 5, 6, 7] rfl)
  have b_43 : ∀ (M : me_M) (s0 : Int32) (H : Heap) (locs : List Loc) (ls : Array Slot), f_M_narrow_b43 j0 x1 M s0 = (some MZ) → (s0 = 1 ∨ s0 = 0) → me_wf N M → me_kp M0 M → va_P D classes (me_W ad ca M) H → va_D A (me_W ad ca M) → va_S A s.heap H locs → lv_has ls 12 [(0, .ref (ad 1 j0)), (1, .int x1)] → W p l e rm_M_narrow s m [.ref (ad 1 j0), .int x1].toArray below meth c H locs 0 0 (MQ below (q_M_narrow D ad ca N M0 MZ A) [.ref (ad 1 j0), .int x1].toArray s rm_M_narrow.cells rm_M_narrow.slots A) (F0 m 43 ls [.int s0]) := by
    intro M s0 H locs ls h zs0 hwf hkp hP hD hS hl
    unfold f_M_narrow_b43 at h
    have hkb := hkp
    refine lv_istore_n (lv' := [(2, .int s0), (0, .ref (ad 1 j0)), (1, .int x1)]) hx hb d_M_narrow_43 rfl hl (by decide) rfl (fun ls hl => ?_)
    refine lv_aload_n hx hb d_M_narrow_44 rfl (lv_at hl 1 rfl) ?_
    refine g_M_54 hx hb hts hown hK hP hwf hj0 (hts _ u_1795) d_M_narrow_45 ?_
    obtain ⟨j35, e36, h⟩ := bd_ob h
    have hj35 : j35 < N 16 := (hwf.2.1 1 j0 54 _ e36 (by decide) hj0)
    refine me_opt (j := j35) e36 ?_
    refine lv_iload_n hx hb d_M_narrow_48 rfl (lv_at hl 2 rfl) ?_
    obtain ⟨g37, h⟩ := gd_ob h
    refine me_lald hx hb hK hP hwf hj35 g37 d_M_narrow_49 ?_
    obtain ⟨v38, ev38, h⟩ := st_ob h
    refine fg_topl (y := v38) ev38.symm ?_
    refine lv_lstore_n (lv' := [(3, .long v38), (2, .int s0), (0, .ref (ad 1 j0)), (1, .int x1)]) hx hb d_M_narrow_50 rfl hl (by decide) rfl (fun ls hl => ?_)
    refine lv_aload_n hx hb d_M_narrow_51 rfl (lv_at hl 2 rfl) ?_
    refine g_M_55 hx hb hts hown hK hP hwf hj0 (hts _ u_1796) d_M_narrow_52 ?_
    obtain ⟨j39, e40, h⟩ := bd_ob h
    have hj39 : j39 < N 16 := (hwf.2.1 1 j0 55 _ e40 (by decide) hj0)
    refine me_opt (j := j39) e40 ?_
    refine lv_iload_n hx hb d_M_narrow_55 rfl (lv_at hl 3 rfl) ?_
    obtain ⟨g41, h⟩ := gd_ob h
    refine me_lald hx hb hK hP hwf hj39 g41 d_M_narrow_56 ?_
    obtain ⟨v42, ev42, h⟩ := st_ob h
    refine fg_topl (y := v42) ev42.symm ?_
    refine lv_lstore (lv' := [(5, .long v42), (3, .long v38), (2, .int s0), (0, .ref (ad 1 j0)), (1, .int x1)]) hx hb d_M_narrow_57 hl (by decide) rfl (fun ls hl => ?_)
    refine lv_aload_n hx hb d_M_narrow_59 rfl (lv_at hl 3 rfl) ?_
    refine g_M_52 hx hb hts hown hK hP hwf hj0 (hts _ u_1793) d_M_narrow_60 ?_
    obtain ⟨j43, e44, h⟩ := bd_ob h
    have hj43 : j43 < N 16 := (hwf.2.1 1 j0 52 _ e44 (by decide) hj0)
    refine me_opt (j := j43) e44 ?_
    refine lv_iload_n hx hb d_M_narrow_63 rfl (lv_at hl 4 rfl) ?_
    obtain ⟨g45, h⟩ := gd_ob h
    refine me_lald hx hb hK hP hwf hj43 g45 d_M_narrow_64 ?_
    refine lv_ldc2 hx hb hown (hts _ u_2019) d_M_narrow_65 ?_
    refine lv_land hx hb d_M_narrow_68 ?_
    obtain ⟨v46, ev46, h⟩ := st_ob h
    refine fg_topl (y := v46) ev46.symm ?_
    refine lv_lstore (lv' := [(7, .long v46), (5, .long v42), (3, .long v38), (2, .int s0), (0, .ref (ad 1 j0)), (1, .int x1)]) hx hb d_M_narrow_69 hl (by decide) rfl (fun ls hl => ?_)
    refine lv_aload_n hx hb d_M_narrow_71 rfl (lv_at hl 4 rfl) ?_
    refine g_M_53 hx hb hts hown hK hP hwf hj0 (hts _ u_1794) d_M_narrow_72 ?_
    obtain ⟨j47, e48, h⟩ := bd_ob h
    have hj47 : j47 < N 16 := (hwf.2.1 1 j0 53 _ e48 (by decide) hj0)
    refine me_opt (j := j47) e48 ?_
    refine lv_iload_n hx hb d_M_narrow_75 rfl (lv_at hl 5 rfl) ?_
    obtain ⟨g49, h⟩ := gd_ob h
    refine me_lald hx hb hK hP hwf hj47 g49 d_M_narrow_76 ?_
    refine lv_ldc2 hx hb hown (hts _ u_2019) d_M_narrow_77 ?_
    refine lv_land hx hb d_M_narrow_80 ?_
    obtain ⟨v50, ev50, h⟩ := st_ob h
    refine fg_topl (y := v50) ev50.symm ?_
    refine lv_lstore (lv' := [(9, .long v50), (7, .long v46), (5, .long v42), (3, .long v38), (2, .int s0), (0, .ref (ad 1 j0)), (1, .int x1)]) hx hb d_M_narrow_81 hl (by decide) rfl (fun ls hl => ?_)
    refine lv_iconst (v := 0) hx hb d_M_narrow_83 (by decide) ?_
    refine lv_istore (lv' := [(11, .int 0), (9, .long v50), (7, .long v46), (5, .long v42), (3, .long v38), (2, .int s0), (0, .ref (ad 1 j0)), (1, .int x1)]) hx hb d_M_narrow_84 hl (by decide) rfl (fun ls hl => ?_)
    exact b_86 _ M s0 v38 v42 v46 v50 (0 : Int32) _ _ _ h zs0 hwf hkp hP hD hS (lv_sub hl [6, 7, 5, 4, 3, 2, 1, 0] rfl)
  refine lv_ldc2 hx hb hown (hts _ u_2019) d_M_narrow_0 ?_
  refine lv_aload_n hx hb d_M_narrow_3 rfl (lv_at hl 0 rfl) ?_
  refine g_M_55 hx hb hts hown hK hP hwf hj0 (hts _ u_1796) d_M_narrow_4 ?_
  obtain ⟨j51, e52, h⟩ := bd_ob h
  have hj51 : j51 < N 16 := (hwf.2.1 1 j0 55 _ e52 (by decide) hj0)
  refine me_opt (j := j51) e52 ?_
  refine lv_iload_n hx hb d_M_narrow_7 rfl (lv_at hl 1 rfl) ?_
  obtain ⟨g53, h⟩ := gd_ob h
  refine me_lald hx hb hK hP hwf hj51 g53 d_M_narrow_8 ?_
  obtain ⟨r54, er54, h⟩ := bd_ob h
  refine me_pani' (r0 := r54) (fg_runS (wc := []) (tc := []) (A2 := A) (As := [.long 4294967295, .long (mL M0 16 j51 x1.toNatClampNeg)]) (rest := []) ⟨hx, hb, hml, hown, hts⟩ (c_M_below l D r54 (4294967295 : Int64) (mL M0 16 j51 x1.toNatClampNeg) er54 _) (by show fg_nm y_M_below 2; decide +kernel) u_2072 u_2073 u_192 u_2074 ⟨Nat.le_of_ble_eq_true rfl, Nat.le_of_ble_eq_true rfl⟩ hX me_P0 (hK.sub (tys' := []) [] rfl) me_D0 rfl hl.1 (Nat.le_of_ble_eq_true rfl) d_M_narrow_9 ⟨Nat.le_of_ble_eq_true rfl, Nat.le_of_ble_eq_true rfl⟩) hP hD hK hS hA rfl rfl (fun H locs hw hP hD hS => ?_)
  have zr54 := hw
  refine lv_if_ne (tgt := 16) hx hb d_M_narrow_12 (by decide) (fun c55 => ?_) (fun c55 => ?_)
  · have h := if_f c55 h
    refine lv_aload_n hx hb d_M_narrow_16 rfl (lv_at hl 0 rfl) ?_
    refine g_M_54 hx hb hts hown hK hP hwf hj0 (hts _ u_1795) d_M_narrow_17 ?_
    obtain ⟨j56, e57, h⟩ := bd_ob h
    have hj56 : j56 < N 16 := (hwf.2.1 1 j0 54 _ e57 (by decide) hj0)
    refine me_opt (j := j56) e57 ?_
    refine lv_iload_n hx hb d_M_narrow_20 rfl (lv_at hl 1 rfl) ?_
    obtain ⟨g58, h⟩ := gd_ob h
    refine me_lald hx hb hK hP hwf hj56 g58 d_M_narrow_21 ?_
    refine lv_bipush (v := 32) hx hb d_M_narrow_22 (by decide) ?_
    refine lv_lushr (v := jlushr (mL M0 16 j56 x1.toNatClampNeg) (32 : Int32)) hx hb d_M_narrow_24 rfl ?_
    refine lv_aload_n hx hb d_M_narrow_25 rfl (lv_at hl 0 rfl) ?_
    refine g_M_55 hx hb hts hown hK hP hwf hj0 (hts _ u_1796) d_M_narrow_26 ?_
    refine me_opt (j := j51) e52 ?_
    refine lv_iload_n hx hb d_M_narrow_29 rfl (lv_at hl 1 rfl) ?_
    refine me_lald hx hb hK hP hwf hj51 g53 d_M_narrow_30 ?_
    refine lv_bipush (v := 32) hx hb d_M_narrow_31 (by decide) ?_
    refine lv_lushr (v := jlushr (mL M0 16 j51 x1.toNatClampNeg) (32 : Int32)) hx hb d_M_narrow_33 rfl ?_
    refine W.lcmp hx hb d_M_narrow_34 ?_
    refine lv_if_ne (tgt := 42) hx hb d_M_narrow_35 (by decide) (fun c59 => ?_) (fun c59 => ?_)
    · have h := if_f (fun z => c59 ((lg_cmp_eq _ _).mpr z)) h
      refine lv_iconst (v := 0) hx hb d_M_narrow_42 (by decide) ?_
      exact b_43 M0 (0 : Int32) _ _ _ h (by decide) hwf hkp hP hD hS (lv_sub hl [0, 1] rfl)
    have h := if_t ((lg_cmp_eq _ _).mp c59) h
    refine lv_iconst (v := 1) hx hb d_M_narrow_38 (by decide) ?_
    refine lv_goto (tgt := 43) hx hb d_M_narrow_39 (by decide) ?_
    exact b_43 M0 (1 : Int32) _ _ _ h (by decide) hwf hkp hP hD hS (lv_sub hl [0, 1] rfl)
  have h := if_t c55 h
  cases h
  exact fg_retv () hx hb hr hlocks ⟨hwf, hkp⟩ hP (hK.sub (tys' := []) [] rfl) hD hS (Nat.le_of_ble_eq_true rfl) (Nat.le_of_ble_eq_true rfl) d_M_narrow_15
