-- the JDK methods behind charAt and indexOf: names, words, decoded rows (written by gen/j.py)
abbrev jy_L : MethodName := ⟨"java/lang/String", "isLatin1", "()Z"⟩
abbrev jb_L : ByteArray := prog_17_method_154_code
theorem jw_L : xm_is 435 (.code jy_L jb_L 1 (some .boolean)) = true := by decide +kernel
theorem js_L : xm_is 433 (.instanceMethod jy_L) = true ∧ xm_is 434 (.selects "java/lang/String" jy_L jy_L) = true := by decide +kernel
theorem jp_L : plainFor jy_L = true := by decide +kernel
theorem jd_L_0 : decode jb_L 0 = .ok (.getstatic 38, 3) := by decide +kernel
theorem jd_L_3 : decode jb_L 3 = .ok (.ifCond .eq 14, 3) := by decide +kernel
theorem jd_L_6 : decode jb_L 6 = .ok (.aload_n 0, 1) := by decide +kernel
theorem jd_L_7 : decode jb_L 7 = .ok (.getfield 15, 3) := by decide +kernel
theorem jd_L_10 : decode jb_L 10 = .ok (.ifCond .ne 7, 3) := by decide +kernel
theorem jd_L_13 : decode jb_L 13 = .ok (.iconst 1, 1) := by decide +kernel
theorem jd_L_14 : decode jb_L 14 = .ok (.goto 4, 3) := by decide +kernel
theorem jd_L_17 : decode jb_L 17 = .ok (.iconst 0, 1) := by decide +kernel
theorem jd_L_18 : decode jb_L 18 = .ok (.ireturn, 1) := by decide +kernel
abbrev jy_C : MethodName := ⟨"java/lang/String", "charAt", "(I)C"⟩
abbrev jb_C : ByteArray := prog_17_method_56_code
theorem jw_C : xm_is 542 (.code jy_C jb_C 2 (some .char)) = true := by decide +kernel
theorem js_C : xm_is 540 (.instanceMethod jy_C) = true ∧ xm_is 541 (.selects "java/lang/String" jy_C jy_C) = true := by decide +kernel
theorem jp_C : plainFor jy_C = true := by decide +kernel
theorem jd_C_0 : decode jb_C 0 = .ok (.aload_n 0, 1) := by decide +kernel
theorem jd_C_1 : decode jb_C 1 = .ok (.invokevirtual 492, 3) := by decide +kernel
theorem jd_C_4 : decode jb_C 4 = .ok (.ifCond .eq 12, 3) := by decide +kernel
theorem jd_C_7 : decode jb_C 7 = .ok (.aload_n 0, 1) := by decide +kernel
theorem jd_C_8 : decode jb_C 8 = .ok (.getfield 9, 3) := by decide +kernel
theorem jd_C_11 : decode jb_C 11 = .ok (.iload_n 1, 1) := by decide +kernel
theorem jd_C_12 : decode jb_C 12 = .ok (.invokestatic 495, 3) := by decide +kernel
theorem jd_C_15 : decode jb_C 15 = .ok (.ireturn, 1) := by decide +kernel
theorem jd_C_16 : decode jb_C 16 = .ok (.aload_n 0, 1) := by decide +kernel
theorem jd_C_17 : decode jb_C 17 = .ok (.getfield 9, 3) := by decide +kernel
theorem jd_C_20 : decode jb_C 20 = .ok (.iload_n 1, 1) := by decide +kernel
theorem jd_C_21 : decode jb_C 21 = .ok (.invokestatic 498, 3) := by decide +kernel
theorem jd_C_24 : decode jb_C 24 = .ok (.ireturn, 1) := by decide +kernel
abbrev jy_B : MethodName := ⟨"java/lang/StringLatin1", "charAt", "([BI)C"⟩
abbrev jb_B : ByteArray := prog_18_method_2_code
theorem jw_B : xm_is 545 (.code jy_B jb_B 2 (some .char)) = true := by decide +kernel
theorem js_B : xm_is 544 (.static jy_B) = true := by decide +kernel
theorem jp_B : plainFor jy_B = true := by decide +kernel
theorem jd_B_0 : decode jb_B 0 = .ok (.iload_n 1, 1) := by decide +kernel
theorem jd_B_1 : decode jb_B 1 = .ok (.aload_n 0, 1) := by decide +kernel
theorem jd_B_2 : decode jb_B 2 = .ok (.arraylength, 1) := by decide +kernel
theorem jd_B_3 : decode jb_B 3 = .ok (.invokestatic 9, 3) := by decide +kernel
theorem jd_B_6 : decode jb_B 6 = .ok (.aload_n 0, 1) := by decide +kernel
theorem jd_B_7 : decode jb_B 7 = .ok (.iload_n 1, 1) := by decide +kernel
theorem jd_B_8 : decode jb_B 8 = .ok (.baload, 1) := by decide +kernel
theorem jd_B_9 : decode jb_B 9 = .ok (.sipush 255, 3) := by decide +kernel
theorem jd_B_12 : decode jb_B 12 = .ok (.iand, 1) := by decide +kernel
theorem jd_B_13 : decode jb_B 13 = .ok (.i2c, 1) := by decide +kernel
theorem jd_B_14 : decode jb_B 14 = .ok (.ireturn, 1) := by decide +kernel
abbrev jy_K : MethodName := ⟨"java/lang/String", "checkIndex", "(II)V"⟩
abbrev jb_K : ByteArray := prog_17_method_155_code
theorem jw_K : xm_is 548 (.code jy_K jb_K 2 none) = true := by decide +kernel
theorem js_K : xm_is 547 (.static jy_K) = true := by decide +kernel
theorem jp_K : plainFor jy_K = true := by decide +kernel
theorem jd_K_0 : decode jb_K 0 = .ok (.iload_n 0, 1) := by decide +kernel
theorem jd_K_1 : decode jb_K 1 = .ok (.iload_n 1, 1) := by decide +kernel
theorem jd_K_2 : decode jb_K 2 = .ok (.getstatic 1053, 3) := by decide +kernel
theorem jd_K_5 : decode jb_K 5 = .ok (.invokestatic 1059, 3) := by decide +kernel
theorem jd_K_8 : decode jb_K 8 = .ok (.pop, 1) := by decide +kernel
theorem jd_K_9 : decode jb_K 9 = .ok (.return_, 1) := by decide +kernel
abbrev jy_P : MethodName := ⟨"jdk/internal/util/Preconditions", "checkIndex", "(IILjava/util/function/BiFunction;)I"⟩
abbrev jb_P : ByteArray := prog_23_method_11_code
theorem jw_P : xm_is 551 (.code jy_P jb_P 3 (some .int)) = true := by decide +kernel
theorem js_P : xm_is 550 (.static jy_P) = true := by decide +kernel
theorem jp_P : plainFor jy_P = true := by decide +kernel
theorem jd_P_0 : decode jb_P 0 = .ok (.iload_n 0, 1) := by decide +kernel
theorem jd_P_1 : decode jb_P 1 = .ok (.ifCond .lt 8, 3) := by decide +kernel
theorem jd_P_4 : decode jb_P 4 = .ok (.iload_n 0, 1) := by decide +kernel
theorem jd_P_5 : decode jb_P 5 = .ok (.iload_n 1, 1) := by decide +kernel
theorem jd_P_6 : decode jb_P 6 = .ok (.if_icmp .lt 10, 3) := by decide +kernel
theorem jd_P_9 : decode jb_P 9 = .ok (.aload_n 2, 1) := by decide +kernel
theorem jd_P_10 : decode jb_P 10 = .ok (.iload_n 0, 1) := by decide +kernel
theorem jd_P_11 : decode jb_P 11 = .ok (.iload_n 1, 1) := by decide +kernel
theorem jd_P_12 : decode jb_P 12 = .ok (.invokestatic 95, 3) := by decide +kernel
theorem jd_P_15 : decode jb_P 15 = .ok (.athrow, 1) := by decide +kernel
theorem jd_P_16 : decode jb_P 16 = .ok (.iload_n 0, 1) := by decide +kernel
theorem jd_P_17 : decode jb_P 17 = .ok (.ireturn, 1) := by decide +kernel
abbrev jy_I : MethodName := ⟨"java/lang/String", "indexOf", "(I)I"⟩
abbrev jb_I : ByteArray := prog_17_method_79_code
theorem jw_I : xm_is 427 (.code jy_I jb_I 2 (some .int)) = true := by decide +kernel
theorem js_I : xm_is 425 (.instanceMethod jy_I) = true ∧ xm_is 426 (.selects "java/lang/String" jy_I jy_I) = true := by decide +kernel
theorem jp_I : plainFor jy_I = true := by decide +kernel
theorem jd_I_0 : decode jb_I 0 = .ok (.aload_n 0, 1) := by decide +kernel
theorem jd_I_1 : decode jb_I 1 = .ok (.iload_n 1, 1) := by decide +kernel
theorem jd_I_2 : decode jb_I 2 = .ok (.iconst 0, 1) := by decide +kernel
theorem jd_I_3 : decode jb_I 3 = .ok (.invokevirtual 633, 3) := by decide +kernel
theorem jd_I_6 : decode jb_I 6 = .ok (.ireturn, 1) := by decide +kernel
abbrev jy_J : MethodName := ⟨"java/lang/String", "indexOf", "(II)I"⟩
abbrev jb_J : ByteArray := prog_17_method_80_code
theorem jw_J : xm_is 431 (.code jy_J jb_J 3 (some .int)) = true := by decide +kernel
theorem js_J : xm_is 429 (.instanceMethod jy_J) = true ∧ xm_is 430 (.selects "java/lang/String" jy_J jy_J) = true := by decide +kernel
theorem jp_J : plainFor jy_J = true := by decide +kernel
theorem jd_J_0 : decode jb_J 0 = .ok (.aload_n 0, 1) := by decide +kernel
theorem jd_J_1 : decode jb_J 1 = .ok (.invokevirtual 492, 3) := by decide +kernel
theorem jd_J_4 : decode jb_J 4 = .ok (.ifCond .eq 19, 3) := by decide +kernel
theorem jd_J_7 : decode jb_J 7 = .ok (.aload_n 0, 1) := by decide +kernel
theorem jd_J_8 : decode jb_J 8 = .ok (.getfield 9, 3) := by decide +kernel
theorem jd_J_11 : decode jb_J 11 = .ok (.iload_n 1, 1) := by decide +kernel
theorem jd_J_12 : decode jb_J 12 = .ok (.iload_n 2, 1) := by decide +kernel
theorem jd_J_13 : decode jb_J 13 = .ok (.aload_n 0, 1) := by decide +kernel
theorem jd_J_14 : decode jb_J 14 = .ok (.invokevirtual 505, 3) := by decide +kernel
theorem jd_J_17 : decode jb_J 17 = .ok (.invokestatic 637, 3) := by decide +kernel
theorem jd_J_20 : decode jb_J 20 = .ok (.goto 16, 3) := by decide +kernel
theorem jd_J_23 : decode jb_J 23 = .ok (.aload_n 0, 1) := by decide +kernel
theorem jd_J_24 : decode jb_J 24 = .ok (.getfield 9, 3) := by decide +kernel
theorem jd_J_27 : decode jb_J 27 = .ok (.iload_n 1, 1) := by decide +kernel
theorem jd_J_28 : decode jb_J 28 = .ok (.iload_n 2, 1) := by decide +kernel
theorem jd_J_29 : decode jb_J 29 = .ok (.aload_n 0, 1) := by decide +kernel
theorem jd_J_30 : decode jb_J 30 = .ok (.invokevirtual 505, 3) := by decide +kernel
theorem jd_J_33 : decode jb_J 33 = .ok (.invokestatic 640, 3) := by decide +kernel
theorem jd_J_36 : decode jb_J 36 = .ok (.ireturn, 1) := by decide +kernel
abbrev jy_N : MethodName := ⟨"java/lang/String", "length", "()I"⟩
abbrev jb_N : ByteArray := prog_17_method_54_code
theorem jw_N : xm_is 441 (.code jy_N jb_N 1 (some .int)) = true := by decide +kernel
theorem js_N : xm_is 439 (.instanceMethod jy_N) = true ∧ xm_is 440 (.selects "java/lang/String" jy_N jy_N) = true := by decide +kernel
theorem jp_N : plainFor jy_N = true := by decide +kernel
theorem jd_N_0 : decode jb_N 0 = .ok (.aload_n 0, 1) := by decide +kernel
theorem jd_N_1 : decode jb_N 1 = .ok (.getfield 9, 3) := by decide +kernel
theorem jd_N_4 : decode jb_N 4 = .ok (.arraylength, 1) := by decide +kernel
theorem jd_N_5 : decode jb_N 5 = .ok (.aload_n 0, 1) := by decide +kernel
theorem jd_N_6 : decode jb_N 6 = .ok (.invokevirtual 335, 3) := by decide +kernel
theorem jd_N_9 : decode jb_N 9 = .ok (.ishr, 1) := by decide +kernel
theorem jd_N_10 : decode jb_N 10 = .ok (.ireturn, 1) := by decide +kernel
abbrev jy_O : MethodName := ⟨"java/lang/String", "coder", "()B"⟩
abbrev jb_O : ByteArray := prog_17_method_152_code
theorem jw_O : xm_is 445 (.code jy_O jb_O 1 (some .byte)) = true := by decide +kernel
theorem js_O : xm_is 443 (.instanceMethod jy_O) = true ∧ xm_is 444 (.selects "java/lang/String" jy_O jy_O) = true := by decide +kernel
theorem jp_O : plainFor jy_O = true := by decide +kernel
theorem jd_O_0 : decode jb_O 0 = .ok (.getstatic 38, 3) := by decide +kernel
theorem jd_O_3 : decode jb_O 3 = .ok (.ifCond .eq 10, 3) := by decide +kernel
theorem jd_O_6 : decode jb_O 6 = .ok (.aload_n 0, 1) := by decide +kernel
theorem jd_O_7 : decode jb_O 7 = .ok (.getfield 15, 3) := by decide +kernel
theorem jd_O_10 : decode jb_O 10 = .ok (.goto 4, 3) := by decide +kernel
theorem jd_O_13 : decode jb_O 13 = .ok (.iconst 1, 1) := by decide +kernel
theorem jd_O_14 : decode jb_O 14 = .ok (.ireturn, 1) := by decide +kernel
abbrev jy_X : MethodName := ⟨"java/lang/StringLatin1", "indexOf", "([BIII)I"⟩
abbrev jb_X : ByteArray := prog_18_method_22_code
theorem jw_X : xm_is 448 (.code jy_X jb_X 4 (some .int)) = true := by decide +kernel
theorem js_X : xm_is 447 (.static jy_X) = true := by decide +kernel
theorem jp_X : plainFor jy_X = true := by decide +kernel
theorem jd_X_0 : decode jb_X 0 = .ok (.iload_n 1, 1) := by decide +kernel
theorem jd_X_1 : decode jb_X 1 = .ok (.invokestatic 88, 3) := by decide +kernel
theorem jd_X_4 : decode jb_X 4 = .ok (.ifCond .ne 5, 3) := by decide +kernel
theorem jd_X_7 : decode jb_X 7 = .ok (.iconst (-1), 1) := by decide +kernel
theorem jd_X_8 : decode jb_X 8 = .ok (.ireturn, 1) := by decide +kernel
theorem jd_X_9 : decode jb_X 9 = .ok (.iload_n 2, 1) := by decide +kernel
theorem jd_X_10 : decode jb_X 10 = .ok (.iconst 0, 1) := by decide +kernel
theorem jd_X_11 : decode jb_X 11 = .ok (.invokestatic 92, 3) := by decide +kernel
theorem jd_X_14 : decode jb_X 14 = .ok (.istore_n 2, 1) := by decide +kernel
theorem jd_X_15 : decode jb_X 15 = .ok (.iload_n 3, 1) := by decide +kernel
theorem jd_X_16 : decode jb_X 16 = .ok (.aload_n 0, 1) := by decide +kernel
theorem jd_X_17 : decode jb_X 17 = .ok (.arraylength, 1) := by decide +kernel
theorem jd_X_18 : decode jb_X 18 = .ok (.invokestatic 38, 3) := by decide +kernel
theorem jd_X_21 : decode jb_X 21 = .ok (.istore_n 3, 1) := by decide +kernel
theorem jd_X_22 : decode jb_X 22 = .ok (.iload_n 2, 1) := by decide +kernel
theorem jd_X_23 : decode jb_X 23 = .ok (.iload_n 3, 1) := by decide +kernel
theorem jd_X_24 : decode jb_X 24 = .ok (.if_icmp .lt 5, 3) := by decide +kernel
theorem jd_X_27 : decode jb_X 27 = .ok (.iconst (-1), 1) := by decide +kernel
theorem jd_X_28 : decode jb_X 28 = .ok (.ireturn, 1) := by decide +kernel
theorem jd_X_29 : decode jb_X 29 = .ok (.aload_n 0, 1) := by decide +kernel
theorem jd_X_30 : decode jb_X 30 = .ok (.iload_n 1, 1) := by decide +kernel
theorem jd_X_31 : decode jb_X 31 = .ok (.iload_n 2, 1) := by decide +kernel
theorem jd_X_32 : decode jb_X 32 = .ok (.iload_n 3, 1) := by decide +kernel
theorem jd_X_33 : decode jb_X 33 = .ok (.invokestatic 95, 3) := by decide +kernel
theorem jd_X_36 : decode jb_X 36 = .ok (.ireturn, 1) := by decide +kernel
abbrev jy_E : MethodName := ⟨"java/lang/StringLatin1", "canEncode", "(I)Z"⟩
abbrev jb_E : ByteArray := prog_18_method_4_code
theorem jw_E : xm_is 451 (.code jy_E jb_E 1 (some .boolean)) = true := by decide +kernel
theorem js_E : xm_is 450 (.static jy_E) = true := by decide +kernel
theorem jp_E : plainFor jy_E = true := by decide +kernel
theorem jd_E_0 : decode jb_E 0 = .ok (.iload_n 0, 1) := by decide +kernel
theorem jd_E_1 : decode jb_E 1 = .ok (.ifCond .lt 14, 3) := by decide +kernel
theorem jd_E_4 : decode jb_E 4 = .ok (.iload_n 0, 1) := by decide +kernel
theorem jd_E_5 : decode jb_E 5 = .ok (.sipush 255, 3) := by decide +kernel
theorem jd_E_8 : decode jb_E 8 = .ok (.if_icmp .gt 7, 3) := by decide +kernel
theorem jd_E_11 : decode jb_E 11 = .ok (.iconst 1, 1) := by decide +kernel
theorem jd_E_12 : decode jb_E 12 = .ok (.goto 4, 3) := by decide +kernel
theorem jd_E_15 : decode jb_E 15 = .ok (.iconst 0, 1) := by decide +kernel
theorem jd_E_16 : decode jb_E 16 = .ok (.ireturn, 1) := by decide +kernel
abbrev jy_H : MethodName := ⟨"java/lang/StringLatin1", "indexOfChar", "([BIII)I"⟩
abbrev jb_H : ByteArray := prog_18_method_23_code
theorem jw_H : xm_is 460 (.code jy_H jb_H 6 (some .int)) = true := by decide +kernel
theorem js_H : xm_is 459 (.static jy_H) = true := by decide +kernel
theorem jp_H : plainFor jy_H = true := by decide +kernel
theorem jd_H_0 : decode jb_H 0 = .ok (.iload_n 1, 1) := by decide +kernel
theorem jd_H_1 : decode jb_H 1 = .ok (.i2b, 1) := by decide +kernel
theorem jd_H_2 : decode jb_H 2 = .ok (.istore 4, 2) := by decide +kernel
theorem jd_H_4 : decode jb_H 4 = .ok (.iload_n 2, 1) := by decide +kernel
theorem jd_H_5 : decode jb_H 5 = .ok (.istore 5, 2) := by decide +kernel
theorem jd_H_7 : decode jb_H 7 = .ok (.iload 5, 2) := by decide +kernel
theorem jd_H_9 : decode jb_H 9 = .ok (.iload_n 3, 1) := by decide +kernel
theorem jd_H_10 : decode jb_H 10 = .ok (.if_icmp .ge 21, 3) := by decide +kernel
theorem jd_H_13 : decode jb_H 13 = .ok (.aload_n 0, 1) := by decide +kernel
theorem jd_H_14 : decode jb_H 14 = .ok (.iload 5, 2) := by decide +kernel
theorem jd_H_16 : decode jb_H 16 = .ok (.baload, 1) := by decide +kernel
theorem jd_H_17 : decode jb_H 17 = .ok (.iload 4, 2) := by decide +kernel
theorem jd_H_19 : decode jb_H 19 = .ok (.if_icmp .ne 6, 3) := by decide +kernel
theorem jd_H_22 : decode jb_H 22 = .ok (.iload 5, 2) := by decide +kernel
theorem jd_H_24 : decode jb_H 24 = .ok (.ireturn, 1) := by decide +kernel
theorem jd_H_25 : decode jb_H 25 = .ok (.iinc 5 1, 3) := by decide +kernel
theorem jd_H_28 : decode jb_H 28 = .ok (.goto (-21), 3) := by decide +kernel
theorem jd_H_31 : decode jb_H 31 = .ok (.iconst (-1), 1) := by decide +kernel
theorem jd_H_32 : decode jb_H 32 = .ok (.ireturn, 1) := by decide +kernel
abbrev jy_U : MethodName := ⟨"java/lang/Math", "max", "(II)I"⟩
abbrev jb_U : ByteArray := prog_15_method_65_code
theorem jw_U : xm_is 454 (.code jy_U jb_U 2 (some .int)) = true := by decide +kernel
theorem js_U : xm_is 453 (.static jy_U) = true := by decide +kernel
theorem jp_U : plainFor jy_U = true := by decide +kernel
theorem jd_U_0 : decode jb_U 0 = .ok (.iload_n 0, 1) := by decide +kernel
theorem jd_U_1 : decode jb_U 1 = .ok (.iload_n 1, 1) := by decide +kernel
theorem jd_U_2 : decode jb_U 2 = .ok (.if_icmp .lt 7, 3) := by decide +kernel
theorem jd_U_5 : decode jb_U 5 = .ok (.iload_n 0, 1) := by decide +kernel
theorem jd_U_6 : decode jb_U 6 = .ok (.goto 4, 3) := by decide +kernel
theorem jd_U_9 : decode jb_U 9 = .ok (.iload_n 1, 1) := by decide +kernel
theorem jd_U_10 : decode jb_U 10 = .ok (.ireturn, 1) := by decide +kernel
abbrev jy_V : MethodName := ⟨"java/lang/Math", "min", "(II)I"⟩
abbrev jb_V : ByteArray := prog_15_method_69_code
theorem jw_V : xm_is 457 (.code jy_V jb_V 2 (some .int)) = true := by decide +kernel
theorem js_V : xm_is 456 (.static jy_V) = true := by decide +kernel
theorem jp_V : plainFor jy_V = true := by decide +kernel
theorem jd_V_0 : decode jb_V 0 = .ok (.iload_n 0, 1) := by decide +kernel
theorem jd_V_1 : decode jb_V 1 = .ok (.iload_n 1, 1) := by decide +kernel
theorem jd_V_2 : decode jb_V 2 = .ok (.if_icmp .gt 7, 3) := by decide +kernel
theorem jd_V_5 : decode jb_V 5 = .ok (.iload_n 0, 1) := by decide +kernel
theorem jd_V_6 : decode jb_V 6 = .ok (.goto 4, 3) := by decide +kernel
theorem jd_V_9 : decode jb_V 9 = .ok (.iload_n 1, 1) := by decide +kernel
theorem jd_V_10 : decode jb_V 10 = .ok (.ireturn, 1) := by decide +kernel
theorem ji_String : xm_is 60 (.initialized "java/lang/String") = true := by decide +kernel
theorem ji_StringLatin1 : xm_is 61 (.initialized "java/lang/StringLatin1") = true := by decide +kernel
theorem ji_Preconditions : xm_is 64 (.initialized "jdk/internal/util/Preconditions") = true := by decide +kernel
theorem ji_Math : xm_is 62 (.initialized "java/lang/Math") = true := by decide +kernel
theorem jl_LayerFeeder_Command_48 : xm_is 424 (.methodLink "LayerFeeder$Command" 48 jy_I) = true := by decide +kernel
theorem jl_String_633 : xm_is 428 (.methodLink "java/lang/String" 633 jy_J) = true := by decide +kernel
theorem jl_String_492 : xm_is 432 (.methodLink "java/lang/String" 492 jy_L) = true := by decide +kernel
theorem jl_String_505 : xm_is 438 (.methodLink "java/lang/String" 505 jy_N) = true := by decide +kernel
theorem jl_String_335 : xm_is 442 (.methodLink "java/lang/String" 335 jy_O) = true := by decide +kernel
theorem jl_String_637 : xm_is 446 (.methodLink "java/lang/String" 637 jy_X) = true := by decide +kernel
theorem jl_StringLatin1_88 : xm_is 449 (.methodLink "java/lang/StringLatin1" 88 jy_E) = true := by decide +kernel
theorem jl_StringLatin1_92 : xm_is 452 (.methodLink "java/lang/StringLatin1" 92 jy_U) = true := by decide +kernel
theorem jl_StringLatin1_38 : xm_is 455 (.methodLink "java/lang/StringLatin1" 38 jy_V) = true := by decide +kernel
theorem jl_StringLatin1_95 : xm_is 458 (.methodLink "java/lang/StringLatin1" 95 jy_H) = true := by decide +kernel
theorem jl_LayerFeeder_241 : xm_is 539 (.methodLink "LayerFeeder" 241 jy_C) = true := by decide +kernel
theorem jl_String_495 : xm_is 543 (.methodLink "java/lang/String" 495 jy_B) = true := by decide +kernel
theorem jl_StringLatin1_9 : xm_is 546 (.methodLink "java/lang/StringLatin1" 9 jy_K) = true := by decide +kernel
theorem jl_String_1059 : xm_is 549 (.methodLink "java/lang/String" 1059 jy_P) = true := by decide +kernel
theorem jf_38 : xm_is 436 (.fieldLink "java/lang/String" 38 "java/lang/String" "COMPACT_STRINGS" "Z") = true := by decide +kernel
theorem jf_1053 : xm_is 479 (.fieldLink "java/lang/String" 1053 "jdk/internal/util/Preconditions" "SIOOBE_FORMATTER" "Ljava/util/function/BiFunction;") = true := by decide +kernel
theorem jf_15 : xm_is 1168 (.fieldLink "java/lang/String" 15 "java/lang/String" "coder" "B") = true := by decide +kernel
theorem jf_9 : xm_is 1169 (.fieldLink "java/lang/String" 9 "java/lang/String" "value" "[B") = true := by decide +kernel
