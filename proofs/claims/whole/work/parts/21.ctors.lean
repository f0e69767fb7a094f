abbrev m_Law_new : gM := (yX4_init, cX4_init, 1, none)
theorem df_4 : ∀ j, j < 6 → defaultValue (tyX4 j) = vp_V [.null, .null, .null, .int 0, .int 0, .int 0] j := by decide +kernel
theorem w_116 : (Cond.methodLink "TwoAgree$Law" (1 : Nat) ({ cls := "java/lang/Object", name := "<init>", desc := "()V" } : MethodName)) ∈ gtb := gt_sg sg_1 41 (by decide +kernel) (by decide +kernel)
theorem w_103 : (Cond.instanceMethod ({ cls := "java/lang/Object", name := "<init>", desc := "()V" } : MethodName)) ∈ gtb := gt_sg sg_1 28 (by decide +kernel) (by decide +kernel)
theorem wc_obj : Cond.code Lib.objectInit ⟨#[0xb1]⟩ 1 none ∈ gtb := gt_sg sg_1 29 (by decide +kernel) (by decide +kernel)
theorem w_141 : (Cond.arrayClass FieldType.int) ∈ gtb := gt_sg sg_1 66 (by decide +kernel) (by decide +kernel)
abbrev m_Isl_new : gM := (yX3_init, cX3_init, 1, none)
theorem df_3 : ∀ j, j < 10 → defaultValue (tyX3 j) = vp_V [.null, .null, .null, .null, .null, .null, .int 0, .int 0, .int 0, .int 0] j := by decide +kernel
theorem w_110 : (Cond.methodLink "TwoAgree$Island" (3 : Nat) ({ cls := "java/lang/Object", name := "<init>", desc := "()V" } : MethodName)) ∈ gtb := gt_sg sg_1 35 (by decide +kernel) (by decide +kernel)
theorem w_111 : (Cond.classLink "TwoAgree$Island" (24 : Nat) "TwoAgree$Law") ∈ gtb := gt_sg sg_1 36 (by decide +kernel) (by decide +kernel)
theorem w_112 : (Cond.instantiable "TwoAgree$Law" (6 : Nat)) ∈ gtb := gt_sg sg_1 37 (by decide +kernel) (by decide +kernel)
theorem w_115 : Cond.code m_Law_new.1 m_Law_new.2.1 m_Law_new.2.2.1 m_Law_new.2.2.2 ∈ gtb := gt_sg sg_1 40 (by decide +kernel) (by decide +kernel)
theorem w_114 : (Cond.instanceMethod ({ cls := "TwoAgree$Law", name := "<init>", desc := "()V" } : MethodName)) ∈ gtb := gt_sg sg_1 39 (by decide +kernel) (by decide +kernel)
abbrev m_Cr_new : gM := (yX2_init, cX2_init, 1, none)
theorem df_2 : ∀ j, j < 8 → defaultValue (tyX2 j) = vp_V [.null, .null, .int 0, .int 0, .null, .null, .null, .null] j := by decide +kernel
theorem w_199 : (Cond.methodLink "TwoAgree$Crowd" (3 : Nat) ({ cls := "java/lang/Object", name := "<init>", desc := "()V" } : MethodName)) ∈ gtb := gt_sg sg_1 124 (by decide +kernel) (by decide +kernel)
abbrev m_Br_new : gM := (yX0_init, cX0_init, 1, none)
theorem df_0 : ∀ j, j < 9 → defaultValue (tyX0 j) = vp_V [.null, .null, .int 0, .int 0, .int 0, .int 0, .int 0, .int 0, .int 0] j := by decide +kernel
theorem w_235 : (Cond.methodLink "TwoAgree$Bribes" (3 : Nat) ({ cls := "java/lang/Object", name := "<init>", desc := "()V" } : MethodName)) ∈ gtb := gt_sg sg_1 160 (by decide +kernel) (by decide +kernel)
theorem w_236 : (Cond.classLink "TwoAgree$Bribes" (9 : Nat) "TwoAgree$Crowd") ∈ gtb := gt_sg sg_1 161 (by decide +kernel) (by decide +kernel)
theorem w_195 : (Cond.instantiable "TwoAgree$Crowd" (8 : Nat)) ∈ gtb := gt_sg sg_1 120 (by decide +kernel) (by decide +kernel)
theorem w_198 : Cond.code m_Cr_new.1 m_Cr_new.2.1 m_Cr_new.2.2.1 m_Cr_new.2.2.2 ∈ gtb := gt_sg sg_1 123 (by decide +kernel) (by decide +kernel)
theorem w_197 : (Cond.instanceMethod ({ cls := "TwoAgree$Crowd", name := "<init>", desc := "()V" } : MethodName)) ∈ gtb := gt_sg sg_1 122 (by decide +kernel) (by decide +kernel)
abbrev m_Pa_new : gM := (yX6_init, cX6_init, 1, none)
theorem df_6 : ∀ j, j < 8 → defaultValue (tyX6 j) = vp_V [.null, .null, .null, .int 0, .int 0, .int 0, .int 0, .int 0] j := by decide +kernel
theorem w_275 : (Cond.methodLink "TwoAgree$Parser" (3 : Nat) ({ cls := "java/lang/Object", name := "<init>", desc := "()V" } : MethodName)) ∈ gtb := gt_sg sg_1 200 (by decide +kernel) (by decide +kernel)
abbrev m_Ch_new : gM := (yX1_init, cX1_init, 1, none)
theorem df_1 : ∀ j, j < 6 → defaultValue (tyX1 j) = vp_V [.null, .null, .null, .null, .int 0, .int 0] j := by decide +kernel
theorem w_307 : (Cond.methodLink "TwoAgree$Changes" (1 : Nat) ({ cls := "java/lang/Object", name := "<init>", desc := "()V" } : MethodName)) ∈ gtb := gt_sg sg_1 232 (by decide +kernel) (by decide +kernel)
abbrev m_Le_new : gM := (yX5_init, cX5_init, 1, none)
theorem df_5 : ∀ j, j < 3 → defaultValue (tyX5 j) = vp_V [.null, .int 0, .int 0] j := by decide +kernel
theorem w_334 : (Cond.methodLink "TwoAgree$Ledger" (1 : Nat) ({ cls := "java/lang/Object", name := "<init>", desc := "()V" } : MethodName)) ∈ gtb := gt_sg sg_2 19 (by decide +kernel) (by decide +kernel)
abbrev m_Pi_new : gM := (yX7_init, cX7_init, 1, none)
theorem df_7 : ∀ j, j < 6 → defaultValue (tyX7 j) = vp_V [.null, .null, .null, .int 0, .int 0, .int 0] j := by decide +kernel
theorem w_352 : (Cond.methodLink "TwoAgree$Picture" (3 : Nat) ({ cls := "java/lang/Object", name := "<init>", desc := "()V" } : MethodName)) ∈ gtb := gt_sg sg_2 37 (by decide +kernel) (by decide +kernel)
theorem w_353 : (Cond.classLink "TwoAgree$Picture" (18 : Nat) "TwoAgree$Ledger") ∈ gtb := gt_sg sg_2 38 (by decide +kernel) (by decide +kernel)
theorem w_330 : (Cond.instantiable "TwoAgree$Ledger" (3 : Nat)) ∈ gtb := gt_sg sg_2 15 (by decide +kernel) (by decide +kernel)
theorem w_333 : Cond.code m_Le_new.1 m_Le_new.2.1 m_Le_new.2.2.1 m_Le_new.2.2.2 ∈ gtb := gt_sg sg_2 18 (by decide +kernel) (by decide +kernel)
theorem w_332 : (Cond.instanceMethod ({ cls := "TwoAgree$Ledger", name := "<init>", desc := "()V" } : MethodName)) ∈ gtb := gt_sg sg_2 17 (by decide +kernel) (by decide +kernel)
abbrev m_Wo_new : gM := (yX9_init, cX9_init, 1, none)
theorem df_9 : ∀ j, j < 5 → defaultValue (tyX9 j) = vp_V [.null, .null, .int 0, .int 0, .int 0] j := by decide +kernel
theorem w_380 : (Cond.methodLink "TwoAgree$Words" (3 : Nat) ({ cls := "java/lang/Object", name := "<init>", desc := "()V" } : MethodName)) ∈ gtb := gt_sg sg_2 65 (by decide +kernel) (by decide +kernel)
abbrev m_Sh_new : gM := (yX8_init, cX8_init, 1, none)
theorem df_8 : ∀ j, j < 5 → defaultValue (tyX8 j) = vp_V [.null, .int 0, .int 0, .int 0, .int 0] j := by decide +kernel
theorem w_407 : (Cond.methodLink "TwoAgree$Shelf" (3 : Nat) ({ cls := "java/lang/Object", name := "<init>", desc := "()V" } : MethodName)) ∈ gtb := gt_sg sg_2 92 (by decide +kernel) (by decide +kernel)
theorem w_429 : (Cond.arrayClass FieldType.long) ∈ gtb := gt_sg sg_2 114 (by decide +kernel) (by decide +kernel)
abbrev m_T_new : gM := (yX10_init, cX10_init, 2, none)
theorem df_10 : ∀ j, j < 9 → defaultValue (tyX10 j) = vp_V [.null, .null, .null, .null, .null, .null, .null, .null, .null] j := by decide +kernel
theorem w_102 : (Cond.methodLink "TwoAgree" (1 : Nat) ({ cls := "java/lang/Object", name := "<init>", desc := "()V" } : MethodName)) ∈ gtb := gt_sg sg_1 27 (by decide +kernel) (by decide +kernel)
theorem w_105 : (Cond.classLink "TwoAgree" (7 : Nat) "TwoAgree$Island") ∈ gtb := gt_sg sg_1 30 (by decide +kernel) (by decide +kernel)
theorem w_106 : (Cond.instantiable "TwoAgree$Island" (10 : Nat)) ∈ gtb := gt_sg sg_1 31 (by decide +kernel) (by decide +kernel)
theorem w_109 : Cond.code m_Isl_new.1 m_Isl_new.2.1 m_Isl_new.2.2.1 m_Isl_new.2.2.2 ∈ gtb := gt_sg sg_1 34 (by decide +kernel) (by decide +kernel)
theorem w_108 : (Cond.instanceMethod ({ cls := "TwoAgree$Island", name := "<init>", desc := "()V" } : MethodName)) ∈ gtb := gt_sg sg_1 33 (by decide +kernel) (by decide +kernel)
theorem w_194 : (Cond.classLink "TwoAgree" (16 : Nat) "TwoAgree$Crowd") ∈ gtb := gt_sg sg_1 119 (by decide +kernel) (by decide +kernel)
theorem w_230 : (Cond.classLink "TwoAgree" (23 : Nat) "TwoAgree$Bribes") ∈ gtb := gt_sg sg_1 155 (by decide +kernel) (by decide +kernel)
theorem w_231 : (Cond.instantiable "TwoAgree$Bribes" (9 : Nat)) ∈ gtb := gt_sg sg_1 156 (by decide +kernel) (by decide +kernel)
theorem w_234 : Cond.code m_Br_new.1 m_Br_new.2.1 m_Br_new.2.2.1 m_Br_new.2.2.2 ∈ gtb := gt_sg sg_1 159 (by decide +kernel) (by decide +kernel)
theorem w_233 : (Cond.instanceMethod ({ cls := "TwoAgree$Bribes", name := "<init>", desc := "()V" } : MethodName)) ∈ gtb := gt_sg sg_1 158 (by decide +kernel) (by decide +kernel)
theorem w_270 : (Cond.classLink "TwoAgree" (30 : Nat) "TwoAgree$Parser") ∈ gtb := gt_sg sg_1 195 (by decide +kernel) (by decide +kernel)
theorem w_271 : (Cond.instantiable "TwoAgree$Parser" (8 : Nat)) ∈ gtb := gt_sg sg_1 196 (by decide +kernel) (by decide +kernel)
theorem w_274 : Cond.code m_Pa_new.1 m_Pa_new.2.1 m_Pa_new.2.2.1 m_Pa_new.2.2.2 ∈ gtb := gt_sg sg_1 199 (by decide +kernel) (by decide +kernel)
theorem w_273 : (Cond.instanceMethod ({ cls := "TwoAgree$Parser", name := "<init>", desc := "()V" } : MethodName)) ∈ gtb := gt_sg sg_1 198 (by decide +kernel) (by decide +kernel)
theorem w_302 : (Cond.classLink "TwoAgree" (37 : Nat) "TwoAgree$Changes") ∈ gtb := gt_sg sg_1 227 (by decide +kernel) (by decide +kernel)
theorem w_303 : (Cond.instantiable "TwoAgree$Changes" (6 : Nat)) ∈ gtb := gt_sg sg_1 228 (by decide +kernel) (by decide +kernel)
theorem w_306 : Cond.code m_Ch_new.1 m_Ch_new.2.1 m_Ch_new.2.2.1 m_Ch_new.2.2.2 ∈ gtb := gt_sg sg_1 231 (by decide +kernel) (by decide +kernel)
theorem w_305 : (Cond.instanceMethod ({ cls := "TwoAgree$Changes", name := "<init>", desc := "()V" } : MethodName)) ∈ gtb := gt_sg sg_1 230 (by decide +kernel) (by decide +kernel)
theorem w_329 : (Cond.classLink "TwoAgree" (44 : Nat) "TwoAgree$Ledger") ∈ gtb := gt_sg sg_2 14 (by decide +kernel) (by decide +kernel)
theorem w_347 : (Cond.classLink "TwoAgree" (51 : Nat) "TwoAgree$Picture") ∈ gtb := gt_sg sg_2 32 (by decide +kernel) (by decide +kernel)
theorem w_348 : (Cond.instantiable "TwoAgree$Picture" (6 : Nat)) ∈ gtb := gt_sg sg_2 33 (by decide +kernel) (by decide +kernel)
theorem w_351 : Cond.code m_Pi_new.1 m_Pi_new.2.1 m_Pi_new.2.2.1 m_Pi_new.2.2.2 ∈ gtb := gt_sg sg_2 36 (by decide +kernel) (by decide +kernel)
theorem w_350 : (Cond.instanceMethod ({ cls := "TwoAgree$Picture", name := "<init>", desc := "()V" } : MethodName)) ∈ gtb := gt_sg sg_2 35 (by decide +kernel) (by decide +kernel)
theorem w_375 : (Cond.classLink "TwoAgree" (58 : Nat) "TwoAgree$Words") ∈ gtb := gt_sg sg_2 60 (by decide +kernel) (by decide +kernel)
theorem w_376 : (Cond.instantiable "TwoAgree$Words" (5 : Nat)) ∈ gtb := gt_sg sg_2 61 (by decide +kernel) (by decide +kernel)
theorem w_379 : Cond.code m_Wo_new.1 m_Wo_new.2.1 m_Wo_new.2.2.1 m_Wo_new.2.2.2 ∈ gtb := gt_sg sg_2 64 (by decide +kernel) (by decide +kernel)
theorem w_378 : (Cond.instanceMethod ({ cls := "TwoAgree$Words", name := "<init>", desc := "()V" } : MethodName)) ∈ gtb := gt_sg sg_2 63 (by decide +kernel) (by decide +kernel)
theorem w_401 : (Cond.classLink "TwoAgree" (65 : Nat) "TwoAgree$Shelf") ∈ gtb := gt_sg sg_2 86 (by decide +kernel) (by decide +kernel)
theorem w_403 : (Cond.instantiable "TwoAgree$Shelf" (5 : Nat)) ∈ gtb := gt_sg sg_2 88 (by decide +kernel) (by decide +kernel)
theorem w_406 : Cond.code m_Sh_new.1 m_Sh_new.2.1 m_Sh_new.2.2.1 m_Sh_new.2.2.2 ∈ gtb := gt_sg sg_2 91 (by decide +kernel) (by decide +kernel)
theorem w_405 : (Cond.instanceMethod ({ cls := "TwoAgree$Shelf", name := "<init>", desc := "()V" } : MethodName)) ∈ gtb := gt_sg sg_2 90 (by decide +kernel) (by decide +kernel)
abbrev m_M_new : gM := (yX11_init, cX11_init, 2, none)
theorem df_11 : ∀ j, j < 40 → defaultValue (tyX11 j) = vp_V [.null, .null, .null, .null, .int 0, .int 0, .int 0, .null, .int 0, .null, .int 0, .int 0, .int 0, .int 0, .int 0, .int 0, .null, .null, .null, .null, .null, .int 0, .int 0, .null, .int 0, .int 0, .int 0, .int 0, .null, .null, .int 0, .null, .null, .int 0, .int 0, .int 0, .null, .null, .null, .null] j := by decide +kernel
theorem w_1134 : (Cond.methodLink "TwoAgreeModel" (3 : Nat) ({ cls := "java/lang/Object", name := "<init>", desc := "()V" } : MethodName)) ∈ gtb := gt_sg sg_5 99 (by decide +kernel) (by decide +kernel)
theorem d_Law_new_0 : decode m_Law_new.2.1 0 = .ok (.aload_n 0, 1) := by decide +kernel
theorem d_Law_new_1 : decode m_Law_new.2.1 1 = .ok (.invokespecial 1, 3) := by decide +kernel
theorem d_Law_new_4 : decode m_Law_new.2.1 4 = .ok (.aload_n 0, 1) := by decide +kernel
theorem d_Law_new_5 : decode m_Law_new.2.1 5 = .ok (.sipush (128), 3) := by decide +kernel
theorem d_Law_new_8 : decode m_Law_new.2.1 8 = .ok (.newarray .int, 2) := by decide +kernel
theorem d_Law_new_10 : decode m_Law_new.2.1 10 = .ok (.putfield 9, 3) := by decide +kernel
theorem d_Law_new_13 : decode m_Law_new.2.1 13 = .ok (.aload_n 0, 1) := by decide +kernel
theorem d_Law_new_14 : decode m_Law_new.2.1 14 = .ok (.sipush (128), 3) := by decide +kernel
theorem d_Law_new_17 : decode m_Law_new.2.1 17 = .ok (.newarray .int, 2) := by decide +kernel
theorem d_Law_new_19 : decode m_Law_new.2.1 19 = .ok (.putfield 13, 3) := by decide +kernel
theorem d_Law_new_22 : decode m_Law_new.2.1 22 = .ok (.aload_n 0, 1) := by decide +kernel
theorem d_Law_new_23 : decode m_Law_new.2.1 23 = .ok (.sipush (128), 3) := by decide +kernel
theorem d_Law_new_26 : decode m_Law_new.2.1 26 = .ok (.newarray .int, 2) := by decide +kernel
theorem d_Law_new_28 : decode m_Law_new.2.1 28 = .ok (.putfield 16, 3) := by decide +kernel
theorem d_Law_new_31 : decode m_Law_new.2.1 31 = .ok (.return_, 1) := by decide +kernel
theorem d_Isl_new_0 : decode m_Isl_new.2.1 0 = .ok (.aload_n 0, 1) := by decide +kernel
theorem d_Isl_new_1 : decode m_Isl_new.2.1 1 = .ok (.invokespecial 3, 3) := by decide +kernel
theorem d_Isl_new_4 : decode m_Isl_new.2.1 4 = .ok (.aload_n 0, 1) := by decide +kernel
theorem d_Isl_new_5 : decode m_Isl_new.2.1 5 = .ok (.bipush (10), 2) := by decide +kernel
theorem d_Isl_new_7 : decode m_Isl_new.2.1 7 = .ok (.newarray .int, 2) := by decide +kernel
theorem d_Isl_new_9 : decode m_Isl_new.2.1 9 = .ok (.putfield 9, 3) := by decide +kernel
theorem d_Isl_new_12 : decode m_Isl_new.2.1 12 = .ok (.aload_n 0, 1) := by decide +kernel
theorem d_Isl_new_13 : decode m_Isl_new.2.1 13 = .ok (.bipush (10), 2) := by decide +kernel
theorem d_Isl_new_15 : decode m_Isl_new.2.1 15 = .ok (.newarray .int, 2) := by decide +kernel
theorem d_Isl_new_17 : decode m_Isl_new.2.1 17 = .ok (.putfield 15, 3) := by decide +kernel
theorem d_Isl_new_20 : decode m_Isl_new.2.1 20 = .ok (.aload_n 0, 1) := by decide +kernel
theorem d_Isl_new_21 : decode m_Isl_new.2.1 21 = .ok (.bipush (10), 2) := by decide +kernel
theorem d_Isl_new_23 : decode m_Isl_new.2.1 23 = .ok (.newarray .int, 2) := by decide +kernel
theorem d_Isl_new_25 : decode m_Isl_new.2.1 25 = .ok (.putfield 18, 3) := by decide +kernel
theorem d_Isl_new_28 : decode m_Isl_new.2.1 28 = .ok (.aload_n 0, 1) := by decide +kernel
theorem d_Isl_new_29 : decode m_Isl_new.2.1 29 = .ok (.bipush (10), 2) := by decide +kernel
theorem d_Isl_new_31 : decode m_Isl_new.2.1 31 = .ok (.newarray .int, 2) := by decide +kernel
theorem d_Isl_new_33 : decode m_Isl_new.2.1 33 = .ok (.putfield 21, 3) := by decide +kernel
theorem d_Isl_new_36 : decode m_Isl_new.2.1 36 = .ok (.aload_n 0, 1) := by decide +kernel
theorem d_Isl_new_37 : decode m_Isl_new.2.1 37 = .ok (.new 24, 3) := by decide +kernel
theorem d_Isl_new_40 : decode m_Isl_new.2.1 40 = .ok (.dup, 1) := by decide +kernel
theorem d_Isl_new_41 : decode m_Isl_new.2.1 41 = .ok (.invokespecial 26, 3) := by decide +kernel
theorem d_Isl_new_44 : decode m_Isl_new.2.1 44 = .ok (.putfield 27, 3) := by decide +kernel
theorem d_Isl_new_47 : decode m_Isl_new.2.1 47 = .ok (.aload_n 0, 1) := by decide +kernel
theorem d_Isl_new_48 : decode m_Isl_new.2.1 48 = .ok (.bipush (6), 2) := by decide +kernel
theorem d_Isl_new_50 : decode m_Isl_new.2.1 50 = .ok (.newarray .int, 2) := by decide +kernel
theorem d_Isl_new_52 : decode m_Isl_new.2.1 52 = .ok (.putfield 31, 3) := by decide +kernel
theorem d_Isl_new_55 : decode m_Isl_new.2.1 55 = .ok (.return_, 1) := by decide +kernel
theorem d_Cr_new_0 : decode m_Cr_new.2.1 0 = .ok (.aload_n 0, 1) := by decide +kernel
theorem d_Cr_new_1 : decode m_Cr_new.2.1 1 = .ok (.invokespecial 3, 3) := by decide +kernel
theorem d_Cr_new_4 : decode m_Cr_new.2.1 4 = .ok (.aload_n 0, 1) := by decide +kernel
theorem d_Cr_new_5 : decode m_Cr_new.2.1 5 = .ok (.bipush (10), 2) := by decide +kernel
theorem d_Cr_new_7 : decode m_Cr_new.2.1 7 = .ok (.newarray .int, 2) := by decide +kernel
theorem d_Cr_new_9 : decode m_Cr_new.2.1 9 = .ok (.putfield 9, 3) := by decide +kernel
theorem d_Cr_new_12 : decode m_Cr_new.2.1 12 = .ok (.aload_n 0, 1) := by decide +kernel
theorem d_Cr_new_13 : decode m_Cr_new.2.1 13 = .ok (.bipush (10), 2) := by decide +kernel
theorem d_Cr_new_15 : decode m_Cr_new.2.1 15 = .ok (.newarray .int, 2) := by decide +kernel
theorem d_Cr_new_17 : decode m_Cr_new.2.1 17 = .ok (.putfield 15, 3) := by decide +kernel
theorem d_Cr_new_20 : decode m_Cr_new.2.1 20 = .ok (.aload_n 0, 1) := by decide +kernel
theorem d_Cr_new_21 : decode m_Cr_new.2.1 21 = .ok (.bipush (6), 2) := by decide +kernel
theorem d_Cr_new_23 : decode m_Cr_new.2.1 23 = .ok (.newarray .int, 2) := by decide +kernel
theorem d_Cr_new_25 : decode m_Cr_new.2.1 25 = .ok (.putfield 18, 3) := by decide +kernel
theorem d_Cr_new_28 : decode m_Cr_new.2.1 28 = .ok (.aload_n 0, 1) := by decide +kernel
theorem d_Cr_new_29 : decode m_Cr_new.2.1 29 = .ok (.bipush (10), 2) := by decide +kernel
theorem d_Cr_new_31 : decode m_Cr_new.2.1 31 = .ok (.newarray .int, 2) := by decide +kernel
theorem d_Cr_new_33 : decode m_Cr_new.2.1 33 = .ok (.putfield 21, 3) := by decide +kernel
theorem d_Cr_new_36 : decode m_Cr_new.2.1 36 = .ok (.aload_n 0, 1) := by decide +kernel
theorem d_Cr_new_37 : decode m_Cr_new.2.1 37 = .ok (.bipush (8), 2) := by decide +kernel
theorem d_Cr_new_39 : decode m_Cr_new.2.1 39 = .ok (.newarray .int, 2) := by decide +kernel
theorem d_Cr_new_41 : decode m_Cr_new.2.1 41 = .ok (.putfield 24, 3) := by decide +kernel
theorem d_Cr_new_44 : decode m_Cr_new.2.1 44 = .ok (.aload_n 0, 1) := by decide +kernel
theorem d_Cr_new_45 : decode m_Cr_new.2.1 45 = .ok (.sipush (240), 3) := by decide +kernel
theorem d_Cr_new_48 : decode m_Cr_new.2.1 48 = .ok (.newarray .int, 2) := by decide +kernel
theorem d_Cr_new_50 : decode m_Cr_new.2.1 50 = .ok (.putfield 27, 3) := by decide +kernel
theorem d_Cr_new_53 : decode m_Cr_new.2.1 53 = .ok (.return_, 1) := by decide +kernel
theorem d_Br_new_0 : decode m_Br_new.2.1 0 = .ok (.aload_n 0, 1) := by decide +kernel
theorem d_Br_new_1 : decode m_Br_new.2.1 1 = .ok (.invokespecial 3, 3) := by decide +kernel
theorem d_Br_new_4 : decode m_Br_new.2.1 4 = .ok (.aload_n 0, 1) := by decide +kernel
theorem d_Br_new_5 : decode m_Br_new.2.1 5 = .ok (.new 9, 3) := by decide +kernel
theorem d_Br_new_8 : decode m_Br_new.2.1 8 = .ok (.dup, 1) := by decide +kernel
theorem d_Br_new_9 : decode m_Br_new.2.1 9 = .ok (.invokespecial 11, 3) := by decide +kernel
theorem d_Br_new_12 : decode m_Br_new.2.1 12 = .ok (.putfield 12, 3) := by decide +kernel
theorem d_Br_new_15 : decode m_Br_new.2.1 15 = .ok (.aload_n 0, 1) := by decide +kernel
theorem d_Br_new_16 : decode m_Br_new.2.1 16 = .ok (.bipush (10), 2) := by decide +kernel
theorem d_Br_new_18 : decode m_Br_new.2.1 18 = .ok (.newarray .int, 2) := by decide +kernel
theorem d_Br_new_20 : decode m_Br_new.2.1 20 = .ok (.putfield 18, 3) := by decide +kernel
theorem d_Br_new_23 : decode m_Br_new.2.1 23 = .ok (.return_, 1) := by decide +kernel
theorem d_Pa_new_0 : decode m_Pa_new.2.1 0 = .ok (.aload_n 0, 1) := by decide +kernel
theorem d_Pa_new_1 : decode m_Pa_new.2.1 1 = .ok (.invokespecial 3, 3) := by decide +kernel
theorem d_Pa_new_4 : decode m_Pa_new.2.1 4 = .ok (.aload_n 0, 1) := by decide +kernel
theorem d_Pa_new_5 : decode m_Pa_new.2.1 5 = .ok (.bipush (120), 2) := by decide +kernel
theorem d_Pa_new_7 : decode m_Pa_new.2.1 7 = .ok (.newarray .int, 2) := by decide +kernel
theorem d_Pa_new_9 : decode m_Pa_new.2.1 9 = .ok (.putfield 11, 3) := by decide +kernel
theorem d_Pa_new_12 : decode m_Pa_new.2.1 12 = .ok (.aload_n 0, 1) := by decide +kernel
theorem d_Pa_new_13 : decode m_Pa_new.2.1 13 = .ok (.sipush (128), 3) := by decide +kernel
theorem d_Pa_new_16 : decode m_Pa_new.2.1 16 = .ok (.newarray .int, 2) := by decide +kernel
theorem d_Pa_new_18 : decode m_Pa_new.2.1 18 = .ok (.putfield 17, 3) := by decide +kernel
theorem d_Pa_new_21 : decode m_Pa_new.2.1 21 = .ok (.aload_n 0, 1) := by decide +kernel
theorem d_Pa_new_22 : decode m_Pa_new.2.1 22 = .ok (.sipush (128), 3) := by decide +kernel
theorem d_Pa_new_25 : decode m_Pa_new.2.1 25 = .ok (.newarray .int, 2) := by decide +kernel
theorem d_Pa_new_27 : decode m_Pa_new.2.1 27 = .ok (.putfield 20, 3) := by decide +kernel
theorem d_Pa_new_30 : decode m_Pa_new.2.1 30 = .ok (.return_, 1) := by decide +kernel
theorem d_Ch_new_0 : decode m_Ch_new.2.1 0 = .ok (.aload_n 0, 1) := by decide +kernel
theorem d_Ch_new_1 : decode m_Ch_new.2.1 1 = .ok (.invokespecial 1, 3) := by decide +kernel
theorem d_Ch_new_4 : decode m_Ch_new.2.1 4 = .ok (.aload_n 0, 1) := by decide +kernel
theorem d_Ch_new_5 : decode m_Ch_new.2.1 5 = .ok (.bipush (40), 2) := by decide +kernel
theorem d_Ch_new_7 : decode m_Ch_new.2.1 7 = .ok (.newarray .int, 2) := by decide +kernel
theorem d_Ch_new_9 : decode m_Ch_new.2.1 9 = .ok (.putfield 9, 3) := by decide +kernel
theorem d_Ch_new_12 : decode m_Ch_new.2.1 12 = .ok (.aload_n 0, 1) := by decide +kernel
theorem d_Ch_new_13 : decode m_Ch_new.2.1 13 = .ok (.bipush (40), 2) := by decide +kernel
theorem d_Ch_new_15 : decode m_Ch_new.2.1 15 = .ok (.newarray .int, 2) := by decide +kernel
theorem d_Ch_new_17 : decode m_Ch_new.2.1 17 = .ok (.putfield 13, 3) := by decide +kernel
theorem d_Ch_new_20 : decode m_Ch_new.2.1 20 = .ok (.aload_n 0, 1) := by decide +kernel
theorem d_Ch_new_21 : decode m_Ch_new.2.1 21 = .ok (.bipush (40), 2) := by decide +kernel
theorem d_Ch_new_23 : decode m_Ch_new.2.1 23 = .ok (.newarray .int, 2) := by decide +kernel
theorem d_Ch_new_25 : decode m_Ch_new.2.1 25 = .ok (.putfield 16, 3) := by decide +kernel
theorem d_Ch_new_28 : decode m_Ch_new.2.1 28 = .ok (.aload_n 0, 1) := by decide +kernel
theorem d_Ch_new_29 : decode m_Ch_new.2.1 29 = .ok (.bipush (40), 2) := by decide +kernel
theorem d_Ch_new_31 : decode m_Ch_new.2.1 31 = .ok (.newarray .int, 2) := by decide +kernel
theorem d_Ch_new_33 : decode m_Ch_new.2.1 33 = .ok (.putfield 19, 3) := by decide +kernel
theorem d_Ch_new_36 : decode m_Ch_new.2.1 36 = .ok (.return_, 1) := by decide +kernel
theorem d_Le_new_0 : decode m_Le_new.2.1 0 = .ok (.aload_n 0, 1) := by decide +kernel
theorem d_Le_new_1 : decode m_Le_new.2.1 1 = .ok (.invokespecial 1, 3) := by decide +kernel
theorem d_Le_new_4 : decode m_Le_new.2.1 4 = .ok (.aload_n 0, 1) := by decide +kernel
theorem d_Le_new_5 : decode m_Le_new.2.1 5 = .ok (.iconst 5, 1) := by decide +kernel
theorem d_Le_new_6 : decode m_Le_new.2.1 6 = .ok (.newarray .int, 2) := by decide +kernel
theorem d_Le_new_8 : decode m_Le_new.2.1 8 = .ok (.putfield 9, 3) := by decide +kernel
theorem d_Le_new_11 : decode m_Le_new.2.1 11 = .ok (.return_, 1) := by decide +kernel
theorem d_Pi_new_0 : decode m_Pi_new.2.1 0 = .ok (.aload_n 0, 1) := by decide +kernel
theorem d_Pi_new_1 : decode m_Pi_new.2.1 1 = .ok (.invokespecial 3, 3) := by decide +kernel
theorem d_Pi_new_4 : decode m_Pi_new.2.1 4 = .ok (.aload_n 0, 1) := by decide +kernel
theorem d_Pi_new_5 : decode m_Pi_new.2.1 5 = .ok (.bipush (10), 2) := by decide +kernel
theorem d_Pi_new_7 : decode m_Pi_new.2.1 7 = .ok (.newarray .int, 2) := by decide +kernel
theorem d_Pi_new_9 : decode m_Pi_new.2.1 9 = .ok (.putfield 9, 3) := by decide +kernel
theorem d_Pi_new_12 : decode m_Pi_new.2.1 12 = .ok (.aload_n 0, 1) := by decide +kernel
theorem d_Pi_new_13 : decode m_Pi_new.2.1 13 = .ok (.bipush (10), 2) := by decide +kernel
theorem d_Pi_new_15 : decode m_Pi_new.2.1 15 = .ok (.newarray .int, 2) := by decide +kernel
theorem d_Pi_new_17 : decode m_Pi_new.2.1 17 = .ok (.putfield 15, 3) := by decide +kernel
theorem d_Pi_new_20 : decode m_Pi_new.2.1 20 = .ok (.aload_n 0, 1) := by decide +kernel
theorem d_Pi_new_21 : decode m_Pi_new.2.1 21 = .ok (.new 18, 3) := by decide +kernel
theorem d_Pi_new_24 : decode m_Pi_new.2.1 24 = .ok (.dup, 1) := by decide +kernel
theorem d_Pi_new_25 : decode m_Pi_new.2.1 25 = .ok (.invokespecial 20, 3) := by decide +kernel
theorem d_Pi_new_28 : decode m_Pi_new.2.1 28 = .ok (.putfield 21, 3) := by decide +kernel
theorem d_Pi_new_31 : decode m_Pi_new.2.1 31 = .ok (.return_, 1) := by decide +kernel
theorem d_Wo_new_0 : decode m_Wo_new.2.1 0 = .ok (.aload_n 0, 1) := by decide +kernel
theorem d_Wo_new_1 : decode m_Wo_new.2.1 1 = .ok (.invokespecial 3, 3) := by decide +kernel
theorem d_Wo_new_4 : decode m_Wo_new.2.1 4 = .ok (.aload_n 0, 1) := by decide +kernel
theorem d_Wo_new_5 : decode m_Wo_new.2.1 5 = .ok (.bipush (50), 2) := by decide +kernel
theorem d_Wo_new_7 : decode m_Wo_new.2.1 7 = .ok (.newarray .int, 2) := by decide +kernel
theorem d_Wo_new_9 : decode m_Wo_new.2.1 9 = .ok (.putfield 11, 3) := by decide +kernel
theorem d_Wo_new_12 : decode m_Wo_new.2.1 12 = .ok (.aload_n 0, 1) := by decide +kernel
theorem d_Wo_new_13 : decode m_Wo_new.2.1 13 = .ok (.bipush (24), 2) := by decide +kernel
theorem d_Wo_new_15 : decode m_Wo_new.2.1 15 = .ok (.newarray .int, 2) := by decide +kernel
theorem d_Wo_new_17 : decode m_Wo_new.2.1 17 = .ok (.putfield 15, 3) := by decide +kernel
theorem d_Wo_new_20 : decode m_Wo_new.2.1 20 = .ok (.return_, 1) := by decide +kernel
theorem d_Sh_new_0 : decode m_Sh_new.2.1 0 = .ok (.aload_n 0, 1) := by decide +kernel
theorem d_Sh_new_1 : decode m_Sh_new.2.1 1 = .ok (.invokespecial 3, 3) := by decide +kernel
theorem d_Sh_new_4 : decode m_Sh_new.2.1 4 = .ok (.aload_n 0, 1) := by decide +kernel
theorem d_Sh_new_5 : decode m_Sh_new.2.1 5 = .ok (.bipush (60), 2) := by decide +kernel
theorem d_Sh_new_7 : decode m_Sh_new.2.1 7 = .ok (.newarray .long, 2) := by decide +kernel
theorem d_Sh_new_9 : decode m_Sh_new.2.1 9 = .ok (.putfield 11, 3) := by decide +kernel
theorem d_Sh_new_12 : decode m_Sh_new.2.1 12 = .ok (.return_, 1) := by decide +kernel
theorem d_T_new_0 : decode m_T_new.2.1 0 = .ok (.aload_n 0, 1) := by decide +kernel
theorem d_T_new_1 : decode m_T_new.2.1 1 = .ok (.invokespecial 1, 3) := by decide +kernel
theorem d_T_new_4 : decode m_T_new.2.1 4 = .ok (.aload_n 0, 1) := by decide +kernel
theorem d_T_new_5 : decode m_T_new.2.1 5 = .ok (.new 7, 3) := by decide +kernel
theorem d_T_new_8 : decode m_T_new.2.1 8 = .ok (.dup, 1) := by decide +kernel
theorem d_T_new_9 : decode m_T_new.2.1 9 = .ok (.invokespecial 9, 3) := by decide +kernel
theorem d_T_new_12 : decode m_T_new.2.1 12 = .ok (.putfield 10, 3) := by decide +kernel
theorem d_T_new_15 : decode m_T_new.2.1 15 = .ok (.aload_n 0, 1) := by decide +kernel
theorem d_T_new_16 : decode m_T_new.2.1 16 = .ok (.new 16, 3) := by decide +kernel
theorem d_T_new_19 : decode m_T_new.2.1 19 = .ok (.dup, 1) := by decide +kernel
theorem d_T_new_20 : decode m_T_new.2.1 20 = .ok (.invokespecial 18, 3) := by decide +kernel
theorem d_T_new_23 : decode m_T_new.2.1 23 = .ok (.putfield 19, 3) := by decide +kernel
theorem d_T_new_26 : decode m_T_new.2.1 26 = .ok (.aload_n 0, 1) := by decide +kernel
theorem d_T_new_27 : decode m_T_new.2.1 27 = .ok (.new 23, 3) := by decide +kernel
theorem d_T_new_30 : decode m_T_new.2.1 30 = .ok (.dup, 1) := by decide +kernel
theorem d_T_new_31 : decode m_T_new.2.1 31 = .ok (.invokespecial 25, 3) := by decide +kernel
theorem d_T_new_34 : decode m_T_new.2.1 34 = .ok (.putfield 26, 3) := by decide +kernel
theorem d_T_new_37 : decode m_T_new.2.1 37 = .ok (.aload_n 0, 1) := by decide +kernel
theorem d_T_new_38 : decode m_T_new.2.1 38 = .ok (.new 30, 3) := by decide +kernel
theorem d_T_new_41 : decode m_T_new.2.1 41 = .ok (.dup, 1) := by decide +kernel
theorem d_T_new_42 : decode m_T_new.2.1 42 = .ok (.invokespecial 32, 3) := by decide +kernel
theorem d_T_new_45 : decode m_T_new.2.1 45 = .ok (.putfield 33, 3) := by decide +kernel
theorem d_T_new_48 : decode m_T_new.2.1 48 = .ok (.aload_n 0, 1) := by decide +kernel
theorem d_T_new_49 : decode m_T_new.2.1 49 = .ok (.new 37, 3) := by decide +kernel
theorem d_T_new_52 : decode m_T_new.2.1 52 = .ok (.dup, 1) := by decide +kernel
theorem d_T_new_53 : decode m_T_new.2.1 53 = .ok (.invokespecial 39, 3) := by decide +kernel
theorem d_T_new_56 : decode m_T_new.2.1 56 = .ok (.putfield 40, 3) := by decide +kernel
theorem d_T_new_59 : decode m_T_new.2.1 59 = .ok (.aload_n 0, 1) := by decide +kernel
theorem d_T_new_60 : decode m_T_new.2.1 60 = .ok (.new 44, 3) := by decide +kernel
theorem d_T_new_63 : decode m_T_new.2.1 63 = .ok (.dup, 1) := by decide +kernel
theorem d_T_new_64 : decode m_T_new.2.1 64 = .ok (.invokespecial 46, 3) := by decide +kernel
theorem d_T_new_67 : decode m_T_new.2.1 67 = .ok (.putfield 47, 3) := by decide +kernel
theorem d_T_new_70 : decode m_T_new.2.1 70 = .ok (.aload_n 0, 1) := by decide +kernel
theorem d_T_new_71 : decode m_T_new.2.1 71 = .ok (.new 51, 3) := by decide +kernel
theorem d_T_new_74 : decode m_T_new.2.1 74 = .ok (.dup, 1) := by decide +kernel
theorem d_T_new_75 : decode m_T_new.2.1 75 = .ok (.invokespecial 53, 3) := by decide +kernel
theorem d_T_new_78 : decode m_T_new.2.1 78 = .ok (.putfield 54, 3) := by decide +kernel
theorem d_T_new_81 : decode m_T_new.2.1 81 = .ok (.aload_n 0, 1) := by decide +kernel
theorem d_T_new_82 : decode m_T_new.2.1 82 = .ok (.new 58, 3) := by decide +kernel
theorem d_T_new_85 : decode m_T_new.2.1 85 = .ok (.dup, 1) := by decide +kernel
theorem d_T_new_86 : decode m_T_new.2.1 86 = .ok (.invokespecial 60, 3) := by decide +kernel
theorem d_T_new_89 : decode m_T_new.2.1 89 = .ok (.putfield 61, 3) := by decide +kernel
theorem d_T_new_92 : decode m_T_new.2.1 92 = .ok (.aload_n 0, 1) := by decide +kernel
theorem d_T_new_93 : decode m_T_new.2.1 93 = .ok (.bipush (6), 2) := by decide +kernel
theorem d_T_new_95 : decode m_T_new.2.1 95 = .ok (.anewarray 65, 3) := by decide +kernel
theorem d_T_new_98 : decode m_T_new.2.1 98 = .ok (.putfield 67, 3) := by decide +kernel
theorem d_T_new_101 : decode m_T_new.2.1 101 = .ok (.iconst 0, 1) := by decide +kernel
theorem d_T_new_102 : decode m_T_new.2.1 102 = .ok (.istore_n 1, 1) := by decide +kernel
theorem d_T_new_103 : decode m_T_new.2.1 103 = .ok (.iload_n 1, 1) := by decide +kernel
theorem d_T_new_104 : decode m_T_new.2.1 104 = .ok (.aload_n 0, 1) := by decide +kernel
theorem d_T_new_105 : decode m_T_new.2.1 105 = .ok (.getfield 67, 3) := by decide +kernel
theorem d_T_new_108 : decode m_T_new.2.1 108 = .ok (.arraylength, 1) := by decide +kernel
theorem d_T_new_109 : decode m_T_new.2.1 109 = .ok (.if_icmp .ge (22), 3) := by decide +kernel
theorem d_T_new_112 : decode m_T_new.2.1 112 = .ok (.aload_n 0, 1) := by decide +kernel
theorem d_T_new_113 : decode m_T_new.2.1 113 = .ok (.getfield 67, 3) := by decide +kernel
theorem d_T_new_116 : decode m_T_new.2.1 116 = .ok (.iload_n 1, 1) := by decide +kernel
theorem d_T_new_117 : decode m_T_new.2.1 117 = .ok (.new 65, 3) := by decide +kernel
theorem d_T_new_120 : decode m_T_new.2.1 120 = .ok (.dup, 1) := by decide +kernel
theorem d_T_new_121 : decode m_T_new.2.1 121 = .ok (.invokespecial 71, 3) := by decide +kernel
theorem d_T_new_124 : decode m_T_new.2.1 124 = .ok (.aastore, 1) := by decide +kernel
theorem d_T_new_125 : decode m_T_new.2.1 125 = .ok (.iinc 1 (1), 3) := by decide +kernel
theorem d_T_new_128 : decode m_T_new.2.1 128 = .ok (.goto (-25), 3) := by decide +kernel
theorem d_T_new_131 : decode m_T_new.2.1 131 = .ok (.return_, 1) := by decide +kernel
theorem d_M_new_0 : decode m_M_new.2.1 0 = .ok (.aload_n 0, 1) := by decide +kernel
theorem d_M_new_1 : decode m_M_new.2.1 1 = .ok (.invokespecial 3, 3) := by decide +kernel
theorem d_M_new_4 : decode m_M_new.2.1 4 = .ok (.aload_n 0, 1) := by decide +kernel
theorem d_M_new_5 : decode m_M_new.2.1 5 = .ok (.bipush (43), 2) := by decide +kernel
theorem d_M_new_7 : decode m_M_new.2.1 7 = .ok (.newarray .int, 2) := by decide +kernel
theorem d_M_new_9 : decode m_M_new.2.1 9 = .ok (.putfield 9, 3) := by decide +kernel
theorem d_M_new_12 : decode m_M_new.2.1 12 = .ok (.aload_n 0, 1) := by decide +kernel
theorem d_M_new_13 : decode m_M_new.2.1 13 = .ok (.bipush (40), 2) := by decide +kernel
theorem d_M_new_15 : decode m_M_new.2.1 15 = .ok (.newarray .int, 2) := by decide +kernel
theorem d_M_new_17 : decode m_M_new.2.1 17 = .ok (.putfield 13, 3) := by decide +kernel
theorem d_M_new_20 : decode m_M_new.2.1 20 = .ok (.aload_n 0, 1) := by decide +kernel
theorem d_M_new_21 : decode m_M_new.2.1 21 = .ok (.bipush (40), 2) := by decide +kernel
theorem d_M_new_23 : decode m_M_new.2.1 23 = .ok (.newarray .int, 2) := by decide +kernel
theorem d_M_new_25 : decode m_M_new.2.1 25 = .ok (.putfield 16, 3) := by decide +kernel
theorem d_M_new_28 : decode m_M_new.2.1 28 = .ok (.aload_n 0, 1) := by decide +kernel
theorem d_M_new_29 : decode m_M_new.2.1 29 = .ok (.bipush (40), 2) := by decide +kernel
theorem d_M_new_31 : decode m_M_new.2.1 31 = .ok (.newarray .int, 2) := by decide +kernel
theorem d_M_new_33 : decode m_M_new.2.1 33 = .ok (.putfield 19, 3) := by decide +kernel
theorem d_M_new_36 : decode m_M_new.2.1 36 = .ok (.aload_n 0, 1) := by decide +kernel
theorem d_M_new_37 : decode m_M_new.2.1 37 = .ok (.bipush (120), 2) := by decide +kernel
theorem d_M_new_39 : decode m_M_new.2.1 39 = .ok (.newarray .int, 2) := by decide +kernel
theorem d_M_new_41 : decode m_M_new.2.1 41 = .ok (.putfield 22, 3) := by decide +kernel
theorem d_M_new_44 : decode m_M_new.2.1 44 = .ok (.aload_n 0, 1) := by decide +kernel
theorem d_M_new_45 : decode m_M_new.2.1 45 = .ok (.bipush (120), 2) := by decide +kernel
theorem d_M_new_47 : decode m_M_new.2.1 47 = .ok (.newarray .int, 2) := by decide +kernel
theorem d_M_new_49 : decode m_M_new.2.1 49 = .ok (.putfield 25, 3) := by decide +kernel
theorem d_M_new_52 : decode m_M_new.2.1 52 = .ok (.aload_n 0, 1) := by decide +kernel
theorem d_M_new_53 : decode m_M_new.2.1 53 = .ok (.bipush (6), 2) := by decide +kernel
theorem d_M_new_55 : decode m_M_new.2.1 55 = .ok (.newarray .int, 2) := by decide +kernel
theorem d_M_new_57 : decode m_M_new.2.1 57 = .ok (.putfield 28, 3) := by decide +kernel
theorem d_M_new_60 : decode m_M_new.2.1 60 = .ok (.aload_n 0, 1) := by decide +kernel
theorem d_M_new_61 : decode m_M_new.2.1 61 = .ok (.bipush (10), 2) := by decide +kernel
theorem d_M_new_63 : decode m_M_new.2.1 63 = .ok (.newarray .int, 2) := by decide +kernel
theorem d_M_new_65 : decode m_M_new.2.1 65 = .ok (.putfield 31, 3) := by decide +kernel
theorem d_M_new_68 : decode m_M_new.2.1 68 = .ok (.aload_n 0, 1) := by decide +kernel
theorem d_M_new_69 : decode m_M_new.2.1 69 = .ok (.sipush (1024), 3) := by decide +kernel
theorem d_M_new_72 : decode m_M_new.2.1 72 = .ok (.newarray .int, 2) := by decide +kernel
theorem d_M_new_74 : decode m_M_new.2.1 74 = .ok (.putfield 34, 3) := by decide +kernel
theorem d_M_new_77 : decode m_M_new.2.1 77 = .ok (.aload_n 0, 1) := by decide +kernel
theorem d_M_new_78 : decode m_M_new.2.1 78 = .ok (.bipush (8), 2) := by decide +kernel
theorem d_M_new_80 : decode m_M_new.2.1 80 = .ok (.newarray .int, 2) := by decide +kernel
theorem d_M_new_82 : decode m_M_new.2.1 82 = .ok (.putfield 37, 3) := by decide +kernel
theorem d_M_new_85 : decode m_M_new.2.1 85 = .ok (.aload_n 0, 1) := by decide +kernel
theorem d_M_new_86 : decode m_M_new.2.1 86 = .ok (.bipush (6), 2) := by decide +kernel
theorem d_M_new_88 : decode m_M_new.2.1 88 = .ok (.newarray .int, 2) := by decide +kernel
theorem d_M_new_90 : decode m_M_new.2.1 90 = .ok (.putfield 40, 3) := by decide +kernel
theorem d_M_new_93 : decode m_M_new.2.1 93 = .ok (.aload_n 0, 1) := by decide +kernel
theorem d_M_new_94 : decode m_M_new.2.1 94 = .ok (.iconst 5, 1) := by decide +kernel
theorem d_M_new_95 : decode m_M_new.2.1 95 = .ok (.newarray .int, 2) := by decide +kernel
theorem d_M_new_97 : decode m_M_new.2.1 97 = .ok (.putfield 43, 3) := by decide +kernel
theorem d_M_new_100 : decode m_M_new.2.1 100 = .ok (.aload_n 0, 1) := by decide +kernel
theorem d_M_new_101 : decode m_M_new.2.1 101 = .ok (.bipush (43), 2) := by decide +kernel
theorem d_M_new_103 : decode m_M_new.2.1 103 = .ok (.newarray .int, 2) := by decide +kernel
theorem d_M_new_105 : decode m_M_new.2.1 105 = .ok (.putfield 46, 3) := by decide +kernel
theorem d_M_new_108 : decode m_M_new.2.1 108 = .ok (.aload_n 0, 1) := by decide +kernel
theorem d_M_new_109 : decode m_M_new.2.1 109 = .ok (.iconst 5, 1) := by decide +kernel
theorem d_M_new_110 : decode m_M_new.2.1 110 = .ok (.newarray .int, 2) := by decide +kernel
theorem d_M_new_112 : decode m_M_new.2.1 112 = .ok (.putfield 49, 3) := by decide +kernel
theorem d_M_new_115 : decode m_M_new.2.1 115 = .ok (.aload_n 0, 1) := by decide +kernel
theorem d_M_new_116 : decode m_M_new.2.1 116 = .ok (.bipush (50), 2) := by decide +kernel
theorem d_M_new_118 : decode m_M_new.2.1 118 = .ok (.newarray .int, 2) := by decide +kernel
theorem d_M_new_120 : decode m_M_new.2.1 120 = .ok (.putfield 52, 3) := by decide +kernel
theorem d_M_new_123 : decode m_M_new.2.1 123 = .ok (.aload_n 0, 1) := by decide +kernel
theorem d_M_new_124 : decode m_M_new.2.1 124 = .ok (.bipush (24), 2) := by decide +kernel
theorem d_M_new_126 : decode m_M_new.2.1 126 = .ok (.newarray .int, 2) := by decide +kernel
theorem d_M_new_128 : decode m_M_new.2.1 128 = .ok (.putfield 55, 3) := by decide +kernel
theorem d_M_new_131 : decode m_M_new.2.1 131 = .ok (.aload_n 0, 1) := by decide +kernel
theorem d_M_new_132 : decode m_M_new.2.1 132 = .ok (.bipush (6), 2) := by decide +kernel
theorem d_M_new_134 : decode m_M_new.2.1 134 = .ok (.newarray .int, 2) := by decide +kernel
theorem d_M_new_136 : decode m_M_new.2.1 136 = .ok (.putfield 58, 3) := by decide +kernel
theorem d_M_new_139 : decode m_M_new.2.1 139 = .ok (.aload_n 0, 1) := by decide +kernel
theorem d_M_new_140 : decode m_M_new.2.1 140 = .ok (.bipush (6), 2) := by decide +kernel
theorem d_M_new_142 : decode m_M_new.2.1 142 = .ok (.newarray .int, 2) := by decide +kernel
theorem d_M_new_144 : decode m_M_new.2.1 144 = .ok (.putfield 61, 3) := by decide +kernel
theorem d_M_new_147 : decode m_M_new.2.1 147 = .ok (.aload_n 0, 1) := by decide +kernel
theorem d_M_new_148 : decode m_M_new.2.1 148 = .ok (.sipush (360), 3) := by decide +kernel
theorem d_M_new_151 : decode m_M_new.2.1 151 = .ok (.newarray .long, 2) := by decide +kernel
theorem d_M_new_153 : decode m_M_new.2.1 153 = .ok (.putfield 64, 3) := by decide +kernel
theorem d_M_new_156 : decode m_M_new.2.1 156 = .ok (.aload_n 0, 1) := by decide +kernel
theorem d_M_new_157 : decode m_M_new.2.1 157 = .ok (.bipush (60), 2) := by decide +kernel
theorem d_M_new_159 : decode m_M_new.2.1 159 = .ok (.newarray .long, 2) := by decide +kernel
theorem d_M_new_161 : decode m_M_new.2.1 161 = .ok (.putfield 68, 3) := by decide +kernel
theorem d_M_new_164 : decode m_M_new.2.1 164 = .ok (.iconst 0, 1) := by decide +kernel
theorem d_M_new_165 : decode m_M_new.2.1 165 = .ok (.istore_n 1, 1) := by decide +kernel
theorem d_M_new_166 : decode m_M_new.2.1 166 = .ok (.iload_n 1, 1) := by decide +kernel
theorem d_M_new_167 : decode m_M_new.2.1 167 = .ok (.bipush (6), 2) := by decide +kernel
theorem d_M_new_169 : decode m_M_new.2.1 169 = .ok (.if_icmp .ge (16), 3) := by decide +kernel
theorem d_M_new_172 : decode m_M_new.2.1 172 = .ok (.aload_n 0, 1) := by decide +kernel
theorem d_M_new_173 : decode m_M_new.2.1 173 = .ok (.getfield 58, 3) := by decide +kernel
theorem d_M_new_176 : decode m_M_new.2.1 176 = .ok (.iload_n 1, 1) := by decide +kernel
theorem d_M_new_177 : decode m_M_new.2.1 177 = .ok (.iconst (-1), 1) := by decide +kernel
theorem d_M_new_178 : decode m_M_new.2.1 178 = .ok (.iastore, 1) := by decide +kernel
theorem d_M_new_179 : decode m_M_new.2.1 179 = .ok (.iinc 1 (1), 3) := by decide +kernel
theorem d_M_new_182 : decode m_M_new.2.1 182 = .ok (.goto (-16), 3) := by decide +kernel
theorem d_M_new_185 : decode m_M_new.2.1 185 = .ok (.aload_n 0, 1) := by decide +kernel
theorem d_M_new_186 : decode m_M_new.2.1 186 = .ok (.iconst (-1), 1) := by decide +kernel
theorem d_M_new_187 : decode m_M_new.2.1 187 = .ok (.putfield 71, 3) := by decide +kernel
theorem d_M_new_190 : decode m_M_new.2.1 190 = .ok (.return_, 1) := by decide +kernel
/-! the constructors -/
def gz : gS := (fun _ _ => 0, fun _ _ => 0)
theorem va_up_list (l : List Nat) (v : Nat) : va_up (fun i => l[i]?) l.length (some v) = fun i => (l ++ [v])[i]? := by
  funext i
  show (if i = l.length then some v else l[i]?) = _
  by_cases h : i = l.length
  · rw [if_pos h, h, List.getElem?_append_right (Nat.le_refl _)]
    simp
  · rw [if_neg h]
    by_cases h2 : i < l.length
    · rw [List.getElem?_append_left h2]
    · rw [List.getElem?_eq_none (by omega), List.getElem?_eq_none (by simp; omega)]
theorem gra_eq (ad : Nat → Nat) (js : List Nat) : (fun i : Nat => (js.map ad)[i]?) = fun i : Nat => (js[i]?).map ad := funext fun i => List.getElem?_map
theorem upd_lt (k : Nat) : upd (fun i => if i < k then (-1 : Int32) else 0) k (-1) = fun i => if i < k + 1 then (-1 : Int32) else 0 := by
  funext i
  show (if i = k then (-1 : Int32) else if i < k then -1 else 0) = _
  by_cases h : i = k
  · rw [if_pos h, if_pos (by omega)]
  · rw [if_neg h]
    by_cases h2 : i < k
    · rw [if_pos h2, if_pos (by omega)]
    · rw [if_neg h2, if_neg (by omega)]
theorem gpos {α : Type} {x : α} {Wp : List α} {y : α} {P : List α} {n : Nat} (h : Wp.length = n) : (x :: (Wp ++ (y :: P)))[n + 1]? = some y := by
  subst h
  simp
theorem gposT {α : Type} {Wp : List α} {y : α} {P : List α} {n : Nat} (h : Wp.length = n) : (Wp ++ (y :: P))[n]? = some y := by
  subst h
  simp
theorem gpos3 {α : Type} {x : α} {Wp : List α} {y z : α} {P : List α} {n j : Nat} (h : Wp.length = n) (hj : P[j]? = some z) : (x :: (Wp ++ (y :: P)))[n + 2 + j]? = some z := by
  subst h
  rw [show Wp.length + 2 + j = (Wp.length + (j + 1)) + 1 by omega, List.getElem?_cons_succ, List.getElem?_append_right (by omega), show Wp.length + (j + 1) - Wp.length = j + 1 by omega, List.getElem?_cons_succ]
  exact hj
theorem gset {α : Type} {x : α} {Wp : List α} {y z : α} {P : List α} {n : Nat} (h : Wp.length = n) : (x :: (Wp ++ (y :: P))).set (n + 1) z = x :: (Wp ++ (z :: P)) := by
  subst h
  rw [List.set_cons_succ, List.set_append_right _ _ (Nat.le_refl _), Nat.sub_self, List.set_cons_zero]
theorem gasc {α : Type} {x : α} {Wp : List α} {y : α} {P w : List α} : (x :: (Wp ++ (y :: P))) ++ w = x :: (Wp ++ (y :: (P ++ w))) := by simp
theorem gasc2 {α : Type} {Wp : List α} {y : α} {P w : List α} : (Wp ++ (y :: P)) ++ w = Wp ++ (y :: (P ++ w)) := by simp
section NRows3
variable {D : va_G} {M : gM} {Rm : Room} {mc ms pc : Nat} {L : List (Option Value)} {st : List Value} {ws : va_W} {tys : nT} {cells slots : Nat} {Q : va_W → nT → Prop}
theorem n_iast2 (q0 t0 : Nat) {a n : Nat} {cA : ClassId} {f g : Nat → Int32} {i x : Int32} (ha : ws[q0]? = some (a, .inl (cA, n, .inl f))) (ht : tys[t0]? = some (cA, .int)) (hi : vp_in i n) (hd : decode M.2.1 pc = .ok (.iastore, 1)) (hg : upd f i.toNatClampNeg x = g) (kk : N D M Rm mc ms (pc + 1) L st (ws.set q0 (a, .inl (cA, n, .inl g))) tys cells slots Q) : N D M Rm mc ms pc L (.int x :: .int i :: .ref a :: st) ws tys cells slots Q := by
  subst hg
  exact n_iast q0 t0 ha ht hi hd kk
theorem n_astq2 (q0 t0 qk ci : Nat) {a n v : Nat} {cA : ClassId} {r : vw_C} {vs : List Value} {f g : Nat → Option Nat} {i : Int32} (ha : ws[q0]? = some (a, .inl (cA, n, .inr (.inr (.inr (.inr f)))))) (ht : tys[t0]? = some (cA, .object r.1)) (hv : ws[qk]? = some (v, .inr (ci, vs))) (hc : gcl[ci]? = some r) (hi : vp_in i n) (hd : decode M.2.1 pc = .ok (.aastore, 1)) (hg : va_up f i.toNatClampNeg (some v) = g) (kk : N D M Rm mc ms (pc + 1) L st (ws.set q0 (a, .inl (cA, n, .inr (.inr (.inr (.inr g)))))) tys cells slots Q) : N D M Rm mc ms pc L (.ref v :: .int i :: .ref a :: st) ws tys cells slots Q := by
  subst hg
  exact n_astq q0 t0 qk ci ha ht hv hc hi hd kk
end NRows3
def sh_4 : List gSh := [.inl (4, [some 1, some 2, some 3, none, none, none]), .inr (.inl 128), .inr (.inl 128), .inr (.inl 128)]
set_option maxRecDepth 100000 in
theorem k_Law_new : NCt m_Law_new 4 2 3 384 [.null, .null, .null, .int 0, .int 0, .int 0] (fun h0 ws tys => ∃ (ad : Nat → Nat) (cA : Nat → ClassId), ad 0 = h0 ∧ ws = gL ad cA gz 0 sh_4 ∧ tys = gYL cA 0 sh_4) := by
  refine NCt.of (by decide +kernel) (Nat.le_of_ble_eq_true rfl) rfl (fun D h0 => ?_)
  show N D m_Law_new (nrm 2 3 384) 3 384 0 [some (.ref h0)] [] [(h0, .inr (4, [.null, .null, .null, .int 0, .int 0, .int 0]))] [] 0 0 _
  refine n_aload_n (x := h0)  d_Law_new_0 rfl ?_
  refine n_objInit (st := []) (a := h0)  w_116 w_103 wc_obj d_Law_new_1 (Nat.le_of_ble_eq_true rfl) (Nat.le_of_ble_eq_true rfl) ?_
  refine n_aload_n (x := h0)  d_Law_new_4 rfl ?_
  refine n_const  (v := (128 : Int32)) d_Law_new_5 (Or.inr (Or.inr ⟨_, rfl, by decide, rfl⟩)) ?_
  refine n_newai  (n := (128 : Int32)) (N' := 128) w_141 d_Law_new_8 (by decide) (by decide) (by decide) (Nat.le_of_ble_eq_true rfl) (Nat.le_of_ble_eq_true rfl) (fun q1 c1 => ?_)
  show N D m_Law_new (nrm 2 3 384) 3 384 10 [some (.ref h0)] [.ref q1, .ref h0] [(h0, .inr (4, [.null, .null, .null, .int 0, .int 0, .int 0])), (q1, .inl (c1, 128, .inl (fun _ => 0)))] [(c1, .int)] 1 128 _
  refine n_put  (h0 := h0) (fs := [.null, .null, .null, .int 0, .int 0, .int 0]) (v := .ref q1) fl_RX4_9 rfl rfl rfl rfl (Nat.le_of_ble_eq_true rfl) d_Law_new_10 ?_
  show N D m_Law_new (nrm 2 3 384) 3 384 13 [some (.ref h0)] [] [(h0, .inr (4, [.ref q1, .null, .null, .int 0, .int 0, .int 0])), (q1, .inl (c1, 128, .inl (fun _ => 0)))] [(c1, .int)] 1 128 _
  refine n_aload_n (x := h0)  d_Law_new_13 rfl ?_
  refine n_const  (v := (128 : Int32)) d_Law_new_14 (Or.inr (Or.inr ⟨_, rfl, by decide, rfl⟩)) ?_
  refine n_newai  (n := (128 : Int32)) (N' := 128) w_141 d_Law_new_17 (by decide) (by decide) (by decide) (Nat.le_of_ble_eq_true rfl) (Nat.le_of_ble_eq_true rfl) (fun q2 c2 => ?_)
  show N D m_Law_new (nrm 2 3 384) 3 384 19 [some (.ref h0)] [.ref q2, .ref h0] [(h0, .inr (4, [.ref q1, .null, .null, .int 0, .int 0, .int 0])), (q1, .inl (c1, 128, .inl (fun _ => 0))), (q2, .inl (c2, 128, .inl (fun _ => 0)))] [(c1, .int), (c2, .int)] 2 256 _
  refine n_put  (h0 := h0) (fs := [.ref q1, .null, .null, .int 0, .int 0, .int 0]) (v := .ref q2) fl_RX4_13 rfl rfl rfl rfl (Nat.le_of_ble_eq_true rfl) d_Law_new_19 ?_
  show N D m_Law_new (nrm 2 3 384) 3 384 22 [some (.ref h0)] [] [(h0, .inr (4, [.ref q1, .ref q2, .null, .int 0, .int 0, .int 0])), (q1, .inl (c1, 128, .inl (fun _ => 0))), (q2, .inl (c2, 128, .inl (fun _ => 0)))] [(c1, .int), (c2, .int)] 2 256 _
  refine n_aload_n (x := h0)  d_Law_new_22 rfl ?_
  refine n_const  (v := (128 : Int32)) d_Law_new_23 (Or.inr (Or.inr ⟨_, rfl, by decide, rfl⟩)) ?_
  refine n_newai  (n := (128 : Int32)) (N' := 128) w_141 d_Law_new_26 (by decide) (by decide) (by decide) (Nat.le_of_ble_eq_true rfl) (Nat.le_of_ble_eq_true rfl) (fun q3 c3 => ?_)
  show N D m_Law_new (nrm 2 3 384) 3 384 28 [some (.ref h0)] [.ref q3, .ref h0] [(h0, .inr (4, [.ref q1, .ref q2, .null, .int 0, .int 0, .int 0])), (q1, .inl (c1, 128, .inl (fun _ => 0))), (q2, .inl (c2, 128, .inl (fun _ => 0))), (q3, .inl (c3, 128, .inl (fun _ => 0)))] [(c1, .int), (c2, .int), (c3, .int)] 3 384 _
  refine n_put  (h0 := h0) (fs := [.ref q1, .ref q2, .null, .int 0, .int 0, .int 0]) (v := .ref q3) fl_RX4_16 rfl rfl rfl rfl (Nat.le_of_ble_eq_true rfl) d_Law_new_28 ?_
  show N D m_Law_new (nrm 2 3 384) 3 384 31 [some (.ref h0)] [] [(h0, .inr (4, [.ref q1, .ref q2, .ref q3, .int 0, .int 0, .int 0])), (q1, .inl (c1, 128, .inl (fun _ => 0))), (q2, .inl (c2, 128, .inl (fun _ => 0))), (q3, .inl (c3, 128, .inl (fun _ => 0)))] [(c1, .int), (c2, .int), (c3, .int)] 3 384 _
  refine n_ret  rfl (Nat.le_refl _) (Nat.le_refl _) (Nat.le_refl _) (Nat.le_refl _) d_Law_new_31 ?_
  exact ⟨(fun k => ([h0, q1, q2, q3] : List Nat).getD k 0), (fun k => ([0, c1, c2, c3] : List ClassId).getD k 0), rfl, rfl, rfl⟩
def sh_3 : List gSh := [.inl (3, [some 1, some 2, some 3, some 4, some 5, some 9, none, none, none, none]), .inr (.inl 10), .inr (.inl 10), .inr (.inl 10), .inr (.inl 10), .inl (4, [some 6, some 7, some 8, none, none, none]), .inr (.inl 128), .inr (.inl 128), .inr (.inl 128), .inr (.inl 6)]
set_option maxRecDepth 100000 in
theorem k_Isl_new : NCt m_Isl_new 3 3 9 436 [.null, .null, .null, .null, .null, .null, .int 0, .int 0, .int 0, .int 0] (fun h0 ws tys => ∃ (ad : Nat → Nat) (cA : Nat → ClassId), ad 0 = h0 ∧ ws = gL ad cA gz 0 sh_3 ∧ tys = gYL cA 0 sh_3) := by
  refine NCt.of (by decide +kernel) (Nat.le_of_ble_eq_true rfl) rfl (fun D h0 => ?_)
  show N D m_Isl_new (nrm 3 9 436) 9 436 0 [some (.ref h0)] [] [(h0, .inr (3, [.null, .null, .null, .null, .null, .null, .int 0, .int 0, .int 0, .int 0]))] [] 0 0 _
  refine n_aload_n (x := h0)  d_Isl_new_0 rfl ?_
  refine n_objInit (st := []) (a := h0)  w_110 w_103 wc_obj d_Isl_new_1 (Nat.le_of_ble_eq_true rfl) (Nat.le_of_ble_eq_true rfl) ?_
  refine n_aload_n (x := h0)  d_Isl_new_4 rfl ?_
  refine n_const  (v := (10 : Int32)) d_Isl_new_5 (Or.inr (Or.inl ⟨_, rfl, by decide, rfl⟩)) ?_
  refine n_newai  (n := (10 : Int32)) (N' := 10) w_141 d_Isl_new_7 (by decide) (by decide) (by decide) (Nat.le_of_ble_eq_true rfl) (Nat.le_of_ble_eq_true rfl) (fun q1 c1 => ?_)
  show N D m_Isl_new (nrm 3 9 436) 9 436 9 [some (.ref h0)] [.ref q1, .ref h0] [(h0, .inr (3, [.null, .null, .null, .null, .null, .null, .int 0, .int 0, .int 0, .int 0])), (q1, .inl (c1, 10, .inl (fun _ => 0)))] [(c1, .int)] 1 10 _
  refine n_put  (h0 := h0) (fs := [.null, .null, .null, .null, .null, .null, .int 0, .int 0, .int 0, .int 0]) (v := .ref q1) fl_RX3_9 rfl rfl rfl rfl (Nat.le_of_ble_eq_true rfl) d_Isl_new_9 ?_
  show N D m_Isl_new (nrm 3 9 436) 9 436 12 [some (.ref h0)] [] [(h0, .inr (3, [.ref q1, .null, .null, .null, .null, .null, .int 0, .int 0, .int 0, .int 0])), (q1, .inl (c1, 10, .inl (fun _ => 0)))] [(c1, .int)] 1 10 _
  refine n_aload_n (x := h0)  d_Isl_new_12 rfl ?_
  refine n_const  (v := (10 : Int32)) d_Isl_new_13 (Or.inr (Or.inl ⟨_, rfl, by decide, rfl⟩)) ?_
  refine n_newai  (n := (10 : Int32)) (N' := 10) w_141 d_Isl_new_15 (by decide) (by decide) (by decide) (Nat.le_of_ble_eq_true rfl) (Nat.le_of_ble_eq_true rfl) (fun q2 c2 => ?_)
  show N D m_Isl_new (nrm 3 9 436) 9 436 17 [some (.ref h0)] [.ref q2, .ref h0] [(h0, .inr (3, [.ref q1, .null, .null, .null, .null, .null, .int 0, .int 0, .int 0, .int 0])), (q1, .inl (c1, 10, .inl (fun _ => 0))), (q2, .inl (c2, 10, .inl (fun _ => 0)))] [(c1, .int), (c2, .int)] 2 20 _
  refine n_put  (h0 := h0) (fs := [.ref q1, .null, .null, .null, .null, .null, .int 0, .int 0, .int 0, .int 0]) (v := .ref q2) fl_RX3_15 rfl rfl rfl rfl (Nat.le_of_ble_eq_true rfl) d_Isl_new_17 ?_
  show N D m_Isl_new (nrm 3 9 436) 9 436 20 [some (.ref h0)] [] [(h0, .inr (3, [.ref q1, .ref q2, .null, .null, .null, .null, .int 0, .int 0, .int 0, .int 0])), (q1, .inl (c1, 10, .inl (fun _ => 0))), (q2, .inl (c2, 10, .inl (fun _ => 0)))] [(c1, .int), (c2, .int)] 2 20 _
  refine n_aload_n (x := h0)  d_Isl_new_20 rfl ?_
  refine n_const  (v := (10 : Int32)) d_Isl_new_21 (Or.inr (Or.inl ⟨_, rfl, by decide, rfl⟩)) ?_
  refine n_newai  (n := (10 : Int32)) (N' := 10) w_141 d_Isl_new_23 (by decide) (by decide) (by decide) (Nat.le_of_ble_eq_true rfl) (Nat.le_of_ble_eq_true rfl) (fun q3 c3 => ?_)
  show N D m_Isl_new (nrm 3 9 436) 9 436 25 [some (.ref h0)] [.ref q3, .ref h0] [(h0, .inr (3, [.ref q1, .ref q2, .null, .null, .null, .null, .int 0, .int 0, .int 0, .int 0])), (q1, .inl (c1, 10, .inl (fun _ => 0))), (q2, .inl (c2, 10, .inl (fun _ => 0))), (q3, .inl (c3, 10, .inl (fun _ => 0)))] [(c1, .int), (c2, .int), (c3, .int)] 3 30 _
  refine n_put  (h0 := h0) (fs := [.ref q1, .ref q2, .null, .null, .null, .null, .int 0, .int 0, .int 0, .int 0]) (v := .ref q3) fl_RX3_18 rfl rfl rfl rfl (Nat.le_of_ble_eq_true rfl) d_Isl_new_25 ?_
  show N D m_Isl_new (nrm 3 9 436) 9 436 28 [some (.ref h0)] [] [(h0, .inr (3, [.ref q1, .ref q2, .ref q3, .null, .null, .null, .int 0, .int 0, .int 0, .int 0])), (q1, .inl (c1, 10, .inl (fun _ => 0))), (q2, .inl (c2, 10, .inl (fun _ => 0))), (q3, .inl (c3, 10, .inl (fun _ => 0)))] [(c1, .int), (c2, .int), (c3, .int)] 3 30 _
  refine n_aload_n (x := h0)  d_Isl_new_28 rfl ?_
  refine n_const  (v := (10 : Int32)) d_Isl_new_29 (Or.inr (Or.inl ⟨_, rfl, by decide, rfl⟩)) ?_
  refine n_newai  (n := (10 : Int32)) (N' := 10) w_141 d_Isl_new_31 (by decide) (by decide) (by decide) (Nat.le_of_ble_eq_true rfl) (Nat.le_of_ble_eq_true rfl) (fun q4 c4 => ?_)
  show N D m_Isl_new (nrm 3 9 436) 9 436 33 [some (.ref h0)] [.ref q4, .ref h0] [(h0, .inr (3, [.ref q1, .ref q2, .ref q3, .null, .null, .null, .int 0, .int 0, .int 0, .int 0])), (q1, .inl (c1, 10, .inl (fun _ => 0))), (q2, .inl (c2, 10, .inl (fun _ => 0))), (q3, .inl (c3, 10, .inl (fun _ => 0))), (q4, .inl (c4, 10, .inl (fun _ => 0)))] [(c1, .int), (c2, .int), (c3, .int), (c4, .int)] 4 40 _
  refine n_put  (h0 := h0) (fs := [.ref q1, .ref q2, .ref q3, .null, .null, .null, .int 0, .int 0, .int 0, .int 0]) (v := .ref q4) fl_RX3_21 rfl rfl rfl rfl (Nat.le_of_ble_eq_true rfl) d_Isl_new_33 ?_
  show N D m_Isl_new (nrm 3 9 436) 9 436 36 [some (.ref h0)] [] [(h0, .inr (3, [.ref q1, .ref q2, .ref q3, .ref q4, .null, .null, .int 0, .int 0, .int 0, .int 0])), (q1, .inl (c1, 10, .inl (fun _ => 0))), (q2, .inl (c2, 10, .inl (fun _ => 0))), (q3, .inl (c3, 10, .inl (fun _ => 0))), (q4, .inl (c4, 10, .inl (fun _ => 0)))] [(c1, .int), (c2, .int), (c3, .int), (c4, .int)] 4 40 _
  refine n_aload_n (x := h0)  d_Isl_new_36 rfl ?_
  refine n_new  (ci := 4) (fs := [.null, .null, .null, .int 0, .int 0, .int 0]) uw_4 tyX4_ok w_111 w_112 w_78 rfl df_4 (Nat.le_of_ble_eq_true rfl) (Nat.le_of_ble_eq_true rfl) d_Isl_new_37 (fun q5 => ?_)
  show N D m_Isl_new (nrm 3 9 436) 9 436 40 [some (.ref h0)] [.ref q5, .ref h0] ([(h0, .inr (3, [.ref q1, .ref q2, .ref q3, .ref q4, .null, .null, .int 0, .int 0, .int 0, .int 0])), (q1, .inl (c1, 10, .inl (fun _ => 0))), (q2, .inl (c2, 10, .inl (fun _ => 0))), (q3, .inl (c3, 10, .inl (fun _ => 0))), (q4, .inl (c4, 10, .inl (fun _ => 0)))] ++ [(q5, .inr (4, [.null, .null, .null, .int 0, .int 0, .int 0]))]) [(c1, .int), (c2, .int), (c3, .int), (c4, .int)] 5 46 _
  refine n_dup (v := .ref q5) d_Isl_new_40 rfl ?_
  refine n_init (q := q5) (st := [.ref q5, .ref h0]) k_Law_new w_115 rfl ⟨"TwoAgree", List.mem_of_getElem? (i := 1) (by decide +kernel)⟩ w_78 w_114 rfl (by decide +kernel) (Nat.le_of_ble_eq_true rfl) (Nat.le_of_ble_eq_true rfl) (Nat.le_of_ble_eq_true rfl) (Nat.le_of_ble_eq_true rfl) (Nat.le_of_ble_eq_true rfl) (Nat.le_of_ble_eq_true rfl) d_Isl_new_41 (fun w5 t5 hq => ?_)
  obtain ⟨ad5, ca5, e5, rfl, rfl⟩ := hq
  subst e5
  show N D m_Isl_new (nrm 3 9 436) 9 436 44 [some (.ref h0)] [.ref (ad5 0), .ref h0] [(h0, .inr (3, [.ref q1, .ref q2, .ref q3, .ref q4, .null, .null, .int 0, .int 0, .int 0, .int 0])), (q1, .inl (c1, 10, .inl (fun _ => 0))), (q2, .inl (c2, 10, .inl (fun _ => 0))), (q3, .inl (c3, 10, .inl (fun _ => 0))), (q4, .inl (c4, 10, .inl (fun _ => 0))), (ad5 0, .inr (4, [.ref (ad5 1), .ref (ad5 2), .ref (ad5 3), .int 0, .int 0, .int 0])), (ad5 1, .inl (ca5 1, 128, .inl (fun _ => 0))), (ad5 2, .inl (ca5 2, 128, .inl (fun _ => 0))), (ad5 3, .inl (ca5 3, 128, .inl (fun _ => 0)))] [(c1, .int), (c2, .int), (c3, .int), (c4, .int), (ca5 1, .int), (ca5 2, .int), (ca5 3, .int)] 8 430 _
  refine n_put  (h0 := h0) (fs := [.ref q1, .ref q2, .ref q3, .ref q4, .null, .null, .int 0, .int 0, .int 0, .int 0]) (v := .ref (ad5 0)) fl_RX3_27 rfl rfl rfl rfl (Nat.le_of_ble_eq_true rfl) d_Isl_new_44 ?_
  show N D m_Isl_new (nrm 3 9 436) 9 436 47 [some (.ref h0)] [] [(h0, .inr (3, [.ref q1, .ref q2, .ref q3, .ref q4, .ref (ad5 0), .null, .int 0, .int 0, .int 0, .int 0])), (q1, .inl (c1, 10, .inl (fun _ => 0))), (q2, .inl (c2, 10, .inl (fun _ => 0))), (q3, .inl (c3, 10, .inl (fun _ => 0))), (q4, .inl (c4, 10, .inl (fun _ => 0))), (ad5 0, .inr (4, [.ref (ad5 1), .ref (ad5 2), .ref (ad5 3), .int 0, .int 0, .int 0])), (ad5 1, .inl (ca5 1, 128, .inl (fun _ => 0))), (ad5 2, .inl (ca5 2, 128, .inl (fun _ => 0))), (ad5 3, .inl (ca5 3, 128, .inl (fun _ => 0)))] [(c1, .int), (c2, .int), (c3, .int), (c4, .int), (ca5 1, .int), (ca5 2, .int), (ca5 3, .int)] 8 430 _
  refine n_aload_n (x := h0)  d_Isl_new_47 rfl ?_
  refine n_const  (v := (6 : Int32)) d_Isl_new_48 (Or.inr (Or.inl ⟨_, rfl, by decide, rfl⟩)) ?_
  refine n_newai  (n := (6 : Int32)) (N' := 6) w_141 d_Isl_new_50 (by decide) (by decide) (by decide) (Nat.le_of_ble_eq_true rfl) (Nat.le_of_ble_eq_true rfl) (fun q6 c6 => ?_)
  show N D m_Isl_new (nrm 3 9 436) 9 436 52 [some (.ref h0)] [.ref q6, .ref h0] [(h0, .inr (3, [.ref q1, .ref q2, .ref q3, .ref q4, .ref (ad5 0), .null, .int 0, .int 0, .int 0, .int 0])), (q1, .inl (c1, 10, .inl (fun _ => 0))), (q2, .inl (c2, 10, .inl (fun _ => 0))), (q3, .inl (c3, 10, .inl (fun _ => 0))), (q4, .inl (c4, 10, .inl (fun _ => 0))), (ad5 0, .inr (4, [.ref (ad5 1), .ref (ad5 2), .ref (ad5 3), .int 0, .int 0, .int 0])), (ad5 1, .inl (ca5 1, 128, .inl (fun _ => 0))), (ad5 2, .inl (ca5 2, 128, .inl (fun _ => 0))), (ad5 3, .inl (ca5 3, 128, .inl (fun _ => 0))), (q6, .inl (c6, 6, .inl (fun _ => 0)))] [(c1, .int), (c2, .int), (c3, .int), (c4, .int), (ca5 1, .int), (ca5 2, .int), (ca5 3, .int), (c6, .int)] 9 436 _
  refine n_put  (h0 := h0) (fs := [.ref q1, .ref q2, .ref q3, .ref q4, .ref (ad5 0), .null, .int 0, .int 0, .int 0, .int 0]) (v := .ref q6) fl_RX3_31 rfl rfl rfl rfl (Nat.le_of_ble_eq_true rfl) d_Isl_new_52 ?_
  show N D m_Isl_new (nrm 3 9 436) 9 436 55 [some (.ref h0)] [] [(h0, .inr (3, [.ref q1, .ref q2, .ref q3, .ref q4, .ref (ad5 0), .ref q6, .int 0, .int 0, .int 0, .int 0])), (q1, .inl (c1, 10, .inl (fun _ => 0))), (q2, .inl (c2, 10, .inl (fun _ => 0))), (q3, .inl (c3, 10, .inl (fun _ => 0))), (q4, .inl (c4, 10, .inl (fun _ => 0))), (ad5 0, .inr (4, [.ref (ad5 1), .ref (ad5 2), .ref (ad5 3), .int 0, .int 0, .int 0])), (ad5 1, .inl (ca5 1, 128, .inl (fun _ => 0))), (ad5 2, .inl (ca5 2, 128, .inl (fun _ => 0))), (ad5 3, .inl (ca5 3, 128, .inl (fun _ => 0))), (q6, .inl (c6, 6, .inl (fun _ => 0)))] [(c1, .int), (c2, .int), (c3, .int), (c4, .int), (ca5 1, .int), (ca5 2, .int), (ca5 3, .int), (c6, .int)] 9 436 _
  refine n_ret  rfl (Nat.le_refl _) (Nat.le_refl _) (Nat.le_refl _) (Nat.le_refl _) d_Isl_new_55 ?_
  exact ⟨(fun k => ([h0, q1, q2, q3, q4, (ad5 0), (ad5 1), (ad5 2), (ad5 3), q6] : List Nat).getD k 0), (fun k => ([0, c1, c2, c3, c4, 0, (ca5 1), (ca5 2), (ca5 3), c6] : List ClassId).getD k 0), rfl, rfl, rfl⟩
def sh_2 : List gSh := [.inl (2, [some 1, some 2, none, none, some 3, some 4, some 5, some 6]), .inr (.inl 10), .inr (.inl 10), .inr (.inl 6), .inr (.inl 10), .inr (.inl 8), .inr (.inl 240)]
set_option maxRecDepth 100000 in
theorem k_Cr_new : NCt m_Cr_new 2 2 6 284 [.null, .null, .int 0, .int 0, .null, .null, .null, .null] (fun h0 ws tys => ∃ (ad : Nat → Nat) (cA : Nat → ClassId), ad 0 = h0 ∧ ws = gL ad cA gz 0 sh_2 ∧ tys = gYL cA 0 sh_2) := by
  refine NCt.of (by decide +kernel) (Nat.le_of_ble_eq_true rfl) rfl (fun D h0 => ?_)
  show N D m_Cr_new (nrm 2 6 284) 6 284 0 [some (.ref h0)] [] [(h0, .inr (2, [.null, .null, .int 0, .int 0, .null, .null, .null, .null]))] [] 0 0 _
  refine n_aload_n (x := h0)  d_Cr_new_0 rfl ?_
  refine n_objInit (st := []) (a := h0)  w_199 w_103 wc_obj d_Cr_new_1 (Nat.le_of_ble_eq_true rfl) (Nat.le_of_ble_eq_true rfl) ?_
  refine n_aload_n (x := h0)  d_Cr_new_4 rfl ?_
  refine n_const  (v := (10 : Int32)) d_Cr_new_5 (Or.inr (Or.inl ⟨_, rfl, by decide, rfl⟩)) ?_
  refine n_newai  (n := (10 : Int32)) (N' := 10) w_141 d_Cr_new_7 (by decide) (by decide) (by decide) (Nat.le_of_ble_eq_true rfl) (Nat.le_of_ble_eq_true rfl) (fun q1 c1 => ?_)
  show N D m_Cr_new (nrm 2 6 284) 6 284 9 [some (.ref h0)] [.ref q1, .ref h0] [(h0, .inr (2, [.null, .null, .int 0, .int 0, .null, .null, .null, .null])), (q1, .inl (c1, 10, .inl (fun _ => 0)))] [(c1, .int)] 1 10 _
  refine n_put  (h0 := h0) (fs := [.null, .null, .int 0, .int 0, .null, .null, .null, .null]) (v := .ref q1) fl_RX2_9 rfl rfl rfl rfl (Nat.le_of_ble_eq_true rfl) d_Cr_new_9 ?_
  show N D m_Cr_new (nrm 2 6 284) 6 284 12 [some (.ref h0)] [] [(h0, .inr (2, [.ref q1, .null, .int 0, .int 0, .null, .null, .null, .null])), (q1, .inl (c1, 10, .inl (fun _ => 0)))] [(c1, .int)] 1 10 _
  refine n_aload_n (x := h0)  d_Cr_new_12 rfl ?_
  refine n_const  (v := (10 : Int32)) d_Cr_new_13 (Or.inr (Or.inl ⟨_, rfl, by decide, rfl⟩)) ?_
  refine n_newai  (n := (10 : Int32)) (N' := 10) w_141 d_Cr_new_15 (by decide) (by decide) (by decide) (Nat.le_of_ble_eq_true rfl) (Nat.le_of_ble_eq_true rfl) (fun q2 c2 => ?_)
  show N D m_Cr_new (nrm 2 6 284) 6 284 17 [some (.ref h0)] [.ref q2, .ref h0] [(h0, .inr (2, [.ref q1, .null, .int 0, .int 0, .null, .null, .null, .null])), (q1, .inl (c1, 10, .inl (fun _ => 0))), (q2, .inl (c2, 10, .inl (fun _ => 0)))] [(c1, .int), (c2, .int)] 2 20 _
  refine n_put  (h0 := h0) (fs := [.ref q1, .null, .int 0, .int 0, .null, .null, .null, .null]) (v := .ref q2) fl_RX2_15 rfl rfl rfl rfl (Nat.le_of_ble_eq_true rfl) d_Cr_new_17 ?_
  show N D m_Cr_new (nrm 2 6 284) 6 284 20 [some (.ref h0)] [] [(h0, .inr (2, [.ref q1, .ref q2, .int 0, .int 0, .null, .null, .null, .null])), (q1, .inl (c1, 10, .inl (fun _ => 0))), (q2, .inl (c2, 10, .inl (fun _ => 0)))] [(c1, .int), (c2, .int)] 2 20 _
  refine n_aload_n (x := h0)  d_Cr_new_20 rfl ?_
  refine n_const  (v := (6 : Int32)) d_Cr_new_21 (Or.inr (Or.inl ⟨_, rfl, by decide, rfl⟩)) ?_
  refine n_newai  (n := (6 : Int32)) (N' := 6) w_141 d_Cr_new_23 (by decide) (by decide) (by decide) (Nat.le_of_ble_eq_true rfl) (Nat.le_of_ble_eq_true rfl) (fun q3 c3 => ?_)
  show N D m_Cr_new (nrm 2 6 284) 6 284 25 [some (.ref h0)] [.ref q3, .ref h0] [(h0, .inr (2, [.ref q1, .ref q2, .int 0, .int 0, .null, .null, .null, .null])), (q1, .inl (c1, 10, .inl (fun _ => 0))), (q2, .inl (c2, 10, .inl (fun _ => 0))), (q3, .inl (c3, 6, .inl (fun _ => 0)))] [(c1, .int), (c2, .int), (c3, .int)] 3 26 _
  refine n_put  (h0 := h0) (fs := [.ref q1, .ref q2, .int 0, .int 0, .null, .null, .null, .null]) (v := .ref q3) fl_RX2_18 rfl rfl rfl rfl (Nat.le_of_ble_eq_true rfl) d_Cr_new_25 ?_
  show N D m_Cr_new (nrm 2 6 284) 6 284 28 [some (.ref h0)] [] [(h0, .inr (2, [.ref q1, .ref q2, .int 0, .int 0, .ref q3, .null, .null, .null])), (q1, .inl (c1, 10, .inl (fun _ => 0))), (q2, .inl (c2, 10, .inl (fun _ => 0))), (q3, .inl (c3, 6, .inl (fun _ => 0)))] [(c1, .int), (c2, .int), (c3, .int)] 3 26 _
  refine n_aload_n (x := h0)  d_Cr_new_28 rfl ?_
  refine n_const  (v := (10 : Int32)) d_Cr_new_29 (Or.inr (Or.inl ⟨_, rfl, by decide, rfl⟩)) ?_
  refine n_newai  (n := (10 : Int32)) (N' := 10) w_141 d_Cr_new_31 (by decide) (by decide) (by decide) (Nat.le_of_ble_eq_true rfl) (Nat.le_of_ble_eq_true rfl) (fun q4 c4 => ?_)
  show N D m_Cr_new (nrm 2 6 284) 6 284 33 [some (.ref h0)] [.ref q4, .ref h0] [(h0, .inr (2, [.ref q1, .ref q2, .int 0, .int 0, .ref q3, .null, .null, .null])), (q1, .inl (c1, 10, .inl (fun _ => 0))), (q2, .inl (c2, 10, .inl (fun _ => 0))), (q3, .inl (c3, 6, .inl (fun _ => 0))), (q4, .inl (c4, 10, .inl (fun _ => 0)))] [(c1, .int), (c2, .int), (c3, .int), (c4, .int)] 4 36 _
  refine n_put  (h0 := h0) (fs := [.ref q1, .ref q2, .int 0, .int 0, .ref q3, .null, .null, .null]) (v := .ref q4) fl_RX2_21 rfl rfl rfl rfl (Nat.le_of_ble_eq_true rfl) d_Cr_new_33 ?_
  show N D m_Cr_new (nrm 2 6 284) 6 284 36 [some (.ref h0)] [] [(h0, .inr (2, [.ref q1, .ref q2, .int 0, .int 0, .ref q3, .ref q4, .null, .null])), (q1, .inl (c1, 10, .inl (fun _ => 0))), (q2, .inl (c2, 10, .inl (fun _ => 0))), (q3, .inl (c3, 6, .inl (fun _ => 0))), (q4, .inl (c4, 10, .inl (fun _ => 0)))] [(c1, .int), (c2, .int), (c3, .int), (c4, .int)] 4 36 _
  refine n_aload_n (x := h0)  d_Cr_new_36 rfl ?_
  refine n_const  (v := (8 : Int32)) d_Cr_new_37 (Or.inr (Or.inl ⟨_, rfl, by decide, rfl⟩)) ?_
  refine n_newai  (n := (8 : Int32)) (N' := 8) w_141 d_Cr_new_39 (by decide) (by decide) (by decide) (Nat.le_of_ble_eq_true rfl) (Nat.le_of_ble_eq_true rfl) (fun q5 c5 => ?_)
  show N D m_Cr_new (nrm 2 6 284) 6 284 41 [some (.ref h0)] [.ref q5, .ref h0] [(h0, .inr (2, [.ref q1, .ref q2, .int 0, .int 0, .ref q3, .ref q4, .null, .null])), (q1, .inl (c1, 10, .inl (fun _ => 0))), (q2, .inl (c2, 10, .inl (fun _ => 0))), (q3, .inl (c3, 6, .inl (fun _ => 0))), (q4, .inl (c4, 10, .inl (fun _ => 0))), (q5, .inl (c5, 8, .inl (fun _ => 0)))] [(c1, .int), (c2, .int), (c3, .int), (c4, .int), (c5, .int)] 5 44 _
  refine n_put  (h0 := h0) (fs := [.ref q1, .ref q2, .int 0, .int 0, .ref q3, .ref q4, .null, .null]) (v := .ref q5) fl_RX2_24 rfl rfl rfl rfl (Nat.le_of_ble_eq_true rfl) d_Cr_new_41 ?_
  show N D m_Cr_new (nrm 2 6 284) 6 284 44 [some (.ref h0)] [] [(h0, .inr (2, [.ref q1, .ref q2, .int 0, .int 0, .ref q3, .ref q4, .ref q5, .null])), (q1, .inl (c1, 10, .inl (fun _ => 0))), (q2, .inl (c2, 10, .inl (fun _ => 0))), (q3, .inl (c3, 6, .inl (fun _ => 0))), (q4, .inl (c4, 10, .inl (fun _ => 0))), (q5, .inl (c5, 8, .inl (fun _ => 0)))] [(c1, .int), (c2, .int), (c3, .int), (c4, .int), (c5, .int)] 5 44 _
  refine n_aload_n (x := h0)  d_Cr_new_44 rfl ?_
  refine n_const  (v := (240 : Int32)) d_Cr_new_45 (Or.inr (Or.inr ⟨_, rfl, by decide, rfl⟩)) ?_
  refine n_newai  (n := (240 : Int32)) (N' := 240) w_141 d_Cr_new_48 (by decide) (by decide) (by decide) (Nat.le_of_ble_eq_true rfl) (Nat.le_of_ble_eq_true rfl) (fun q6 c6 => ?_)
  show N D m_Cr_new (nrm 2 6 284) 6 284 50 [some (.ref h0)] [.ref q6, .ref h0] [(h0, .inr (2, [.ref q1, .ref q2, .int 0, .int 0, .ref q3, .ref q4, .ref q5, .null])), (q1, .inl (c1, 10, .inl (fun _ => 0))), (q2, .inl (c2, 10, .inl (fun _ => 0))), (q3, .inl (c3, 6, .inl (fun _ => 0))), (q4, .inl (c4, 10, .inl (fun _ => 0))), (q5, .inl (c5, 8, .inl (fun _ => 0))), (q6, .inl (c6, 240, .inl (fun _ => 0)))] [(c1, .int), (c2, .int), (c3, .int), (c4, .int), (c5, .int), (c6, .int)] 6 284 _
  refine n_put  (h0 := h0) (fs := [.ref q1, .ref q2, .int 0, .int 0, .ref q3, .ref q4, .ref q5, .null]) (v := .ref q6) fl_RX2_27 rfl rfl rfl rfl (Nat.le_of_ble_eq_true rfl) d_Cr_new_50 ?_
  show N D m_Cr_new (nrm 2 6 284) 6 284 53 [some (.ref h0)] [] [(h0, .inr (2, [.ref q1, .ref q2, .int 0, .int 0, .ref q3, .ref q4, .ref q5, .ref q6])), (q1, .inl (c1, 10, .inl (fun _ => 0))), (q2, .inl (c2, 10, .inl (fun _ => 0))), (q3, .inl (c3, 6, .inl (fun _ => 0))), (q4, .inl (c4, 10, .inl (fun _ => 0))), (q5, .inl (c5, 8, .inl (fun _ => 0))), (q6, .inl (c6, 240, .inl (fun _ => 0)))] [(c1, .int), (c2, .int), (c3, .int), (c4, .int), (c5, .int), (c6, .int)] 6 284 _
  refine n_ret  rfl (Nat.le_refl _) (Nat.le_refl _) (Nat.le_refl _) (Nat.le_refl _) d_Cr_new_53 ?_
  exact ⟨(fun k => ([h0, q1, q2, q3, q4, q5, q6] : List Nat).getD k 0), (fun k => ([0, c1, c2, c3, c4, c5, c6] : List ClassId).getD k 0), rfl, rfl, rfl⟩
def sh_0 : List gSh := [.inl (0, [some 1, some 8, none, none, none, none, none, none, none]), .inl (2, [some 2, some 3, none, none, some 4, some 5, some 6, some 7]), .inr (.inl 10), .inr (.inl 10), .inr (.inl 6), .inr (.inl 10), .inr (.inl 8), .inr (.inl 240), .inr (.inl 10)]
set_option maxRecDepth 100000 in
theorem k_Br_new : NCt m_Br_new 0 3 8 302 [.null, .null, .int 0, .int 0, .int 0, .int 0, .int 0, .int 0, .int 0] (fun h0 ws tys => ∃ (ad : Nat → Nat) (cA : Nat → ClassId), ad 0 = h0 ∧ ws = gL ad cA gz 0 sh_0 ∧ tys = gYL cA 0 sh_0) := by
  refine NCt.of (by decide +kernel) (Nat.le_of_ble_eq_true rfl) rfl (fun D h0 => ?_)
  show N D m_Br_new (nrm 3 8 302) 8 302 0 [some (.ref h0)] [] [(h0, .inr (0, [.null, .null, .int 0, .int 0, .int 0, .int 0, .int 0, .int 0, .int 0]))] [] 0 0 _
  refine n_aload_n (x := h0)  d_Br_new_0 rfl ?_
  refine n_objInit (st := []) (a := h0)  w_235 w_103 wc_obj d_Br_new_1 (Nat.le_of_ble_eq_true rfl) (Nat.le_of_ble_eq_true rfl) ?_
  refine n_aload_n (x := h0)  d_Br_new_4 rfl ?_
  refine n_new  (ci := 2) (fs := [.null, .null, .int 0, .int 0, .null, .null, .null, .null]) uw_2 tyX2_ok w_236 w_195 w_79 rfl df_2 (Nat.le_of_ble_eq_true rfl) (Nat.le_of_ble_eq_true rfl) d_Br_new_5 (fun q1 => ?_)
  show N D m_Br_new (nrm 3 8 302) 8 302 8 [some (.ref h0)] [.ref q1, .ref h0] ([(h0, .inr (0, [.null, .null, .int 0, .int 0, .int 0, .int 0, .int 0, .int 0, .int 0]))] ++ [(q1, .inr (2, [.null, .null, .int 0, .int 0, .null, .null, .null, .null]))]) [] 1 8 _
  refine n_dup (v := .ref q1) d_Br_new_8 rfl ?_
  refine n_init (q := q1) (st := [.ref q1, .ref h0]) k_Cr_new w_198 rfl ⟨"TwoAgree", List.mem_of_getElem? (i := 4) (by decide +kernel)⟩ w_79 w_197 rfl (by decide +kernel) (Nat.le_of_ble_eq_true rfl) (Nat.le_of_ble_eq_true rfl) (Nat.le_of_ble_eq_true rfl) (Nat.le_of_ble_eq_true rfl) (Nat.le_of_ble_eq_true rfl) (Nat.le_of_ble_eq_true rfl) d_Br_new_9 (fun w1 t1 hq => ?_)
  obtain ⟨ad1, ca1, e1, rfl, rfl⟩ := hq
  subst e1
  show N D m_Br_new (nrm 3 8 302) 8 302 12 [some (.ref h0)] [.ref (ad1 0), .ref h0] [(h0, .inr (0, [.null, .null, .int 0, .int 0, .int 0, .int 0, .int 0, .int 0, .int 0])), (ad1 0, .inr (2, [.ref (ad1 1), .ref (ad1 2), .int 0, .int 0, .ref (ad1 3), .ref (ad1 4), .ref (ad1 5), .ref (ad1 6)])), (ad1 1, .inl (ca1 1, 10, .inl (fun _ => 0))), (ad1 2, .inl (ca1 2, 10, .inl (fun _ => 0))), (ad1 3, .inl (ca1 3, 6, .inl (fun _ => 0))), (ad1 4, .inl (ca1 4, 10, .inl (fun _ => 0))), (ad1 5, .inl (ca1 5, 8, .inl (fun _ => 0))), (ad1 6, .inl (ca1 6, 240, .inl (fun _ => 0)))] [(ca1 1, .int), (ca1 2, .int), (ca1 3, .int), (ca1 4, .int), (ca1 5, .int), (ca1 6, .int)] 7 292 _
  refine n_put  (h0 := h0) (fs := [.null, .null, .int 0, .int 0, .int 0, .int 0, .int 0, .int 0, .int 0]) (v := .ref (ad1 0)) fl_RX0_12 rfl rfl rfl rfl (Nat.le_of_ble_eq_true rfl) d_Br_new_12 ?_
  show N D m_Br_new (nrm 3 8 302) 8 302 15 [some (.ref h0)] [] [(h0, .inr (0, [.ref (ad1 0), .null, .int 0, .int 0, .int 0, .int 0, .int 0, .int 0, .int 0])), (ad1 0, .inr (2, [.ref (ad1 1), .ref (ad1 2), .int 0, .int 0, .ref (ad1 3), .ref (ad1 4), .ref (ad1 5), .ref (ad1 6)])), (ad1 1, .inl (ca1 1, 10, .inl (fun _ => 0))), (ad1 2, .inl (ca1 2, 10, .inl (fun _ => 0))), (ad1 3, .inl (ca1 3, 6, .inl (fun _ => 0))), (ad1 4, .inl (ca1 4, 10, .inl (fun _ => 0))), (ad1 5, .inl (ca1 5, 8, .inl (fun _ => 0))), (ad1 6, .inl (ca1 6, 240, .inl (fun _ => 0)))] [(ca1 1, .int), (ca1 2, .int), (ca1 3, .int), (ca1 4, .int), (ca1 5, .int), (ca1 6, .int)] 7 292 _
  refine n_aload_n (x := h0)  d_Br_new_15 rfl ?_
  refine n_const  (v := (10 : Int32)) d_Br_new_16 (Or.inr (Or.inl ⟨_, rfl, by decide, rfl⟩)) ?_
  refine n_newai  (n := (10 : Int32)) (N' := 10) w_141 d_Br_new_18 (by decide) (by decide) (by decide) (Nat.le_of_ble_eq_true rfl) (Nat.le_of_ble_eq_true rfl) (fun q2 c2 => ?_)
  show N D m_Br_new (nrm 3 8 302) 8 302 20 [some (.ref h0)] [.ref q2, .ref h0] [(h0, .inr (0, [.ref (ad1 0), .null, .int 0, .int 0, .int 0, .int 0, .int 0, .int 0, .int 0])), (ad1 0, .inr (2, [.ref (ad1 1), .ref (ad1 2), .int 0, .int 0, .ref (ad1 3), .ref (ad1 4), .ref (ad1 5), .ref (ad1 6)])), (ad1 1, .inl (ca1 1, 10, .inl (fun _ => 0))), (ad1 2, .inl (ca1 2, 10, .inl (fun _ => 0))), (ad1 3, .inl (ca1 3, 6, .inl (fun _ => 0))), (ad1 4, .inl (ca1 4, 10, .inl (fun _ => 0))), (ad1 5, .inl (ca1 5, 8, .inl (fun _ => 0))), (ad1 6, .inl (ca1 6, 240, .inl (fun _ => 0))), (q2, .inl (c2, 10, .inl (fun _ => 0)))] [(ca1 1, .int), (ca1 2, .int), (ca1 3, .int), (ca1 4, .int), (ca1 5, .int), (ca1 6, .int), (c2, .int)] 8 302 _
  refine n_put  (h0 := h0) (fs := [.ref (ad1 0), .null, .int 0, .int 0, .int 0, .int 0, .int 0, .int 0, .int 0]) (v := .ref q2) fl_RX0_18 rfl rfl rfl rfl (Nat.le_of_ble_eq_true rfl) d_Br_new_20 ?_
  show N D m_Br_new (nrm 3 8 302) 8 302 23 [some (.ref h0)] [] [(h0, .inr (0, [.ref (ad1 0), .ref q2, .int 0, .int 0, .int 0, .int 0, .int 0, .int 0, .int 0])), (ad1 0, .inr (2, [.ref (ad1 1), .ref (ad1 2), .int 0, .int 0, .ref (ad1 3), .ref (ad1 4), .ref (ad1 5), .ref (ad1 6)])), (ad1 1, .inl (ca1 1, 10, .inl (fun _ => 0))), (ad1 2, .inl (ca1 2, 10, .inl (fun _ => 0))), (ad1 3, .inl (ca1 3, 6, .inl (fun _ => 0))), (ad1 4, .inl (ca1 4, 10, .inl (fun _ => 0))), (ad1 5, .inl (ca1 5, 8, .inl (fun _ => 0))), (ad1 6, .inl (ca1 6, 240, .inl (fun _ => 0))), (q2, .inl (c2, 10, .inl (fun _ => 0)))] [(ca1 1, .int), (ca1 2, .int), (ca1 3, .int), (ca1 4, .int), (ca1 5, .int), (ca1 6, .int), (c2, .int)] 8 302 _
  refine n_ret  rfl (Nat.le_refl _) (Nat.le_refl _) (Nat.le_refl _) (Nat.le_refl _) d_Br_new_23 ?_
  exact ⟨(fun k => ([h0, (ad1 0), (ad1 1), (ad1 2), (ad1 3), (ad1 4), (ad1 5), (ad1 6), q2] : List Nat).getD k 0), (fun k => ([0, 0, (ca1 1), (ca1 2), (ca1 3), (ca1 4), (ca1 5), (ca1 6), c2] : List ClassId).getD k 0), rfl, rfl, rfl⟩
def sh_6 : List gSh := [.inl (6, [some 1, some 2, some 3, none, none, none, none, none]), .inr (.inl 120), .inr (.inl 128), .inr (.inl 128)]
set_option maxRecDepth 100000 in
theorem k_Pa_new : NCt m_Pa_new 6 2 3 376 [.null, .null, .null, .int 0, .int 0, .int 0, .int 0, .int 0] (fun h0 ws tys => ∃ (ad : Nat → Nat) (cA : Nat → ClassId), ad 0 = h0 ∧ ws = gL ad cA gz 0 sh_6 ∧ tys = gYL cA 0 sh_6) := by
  refine NCt.of (by decide +kernel) (Nat.le_of_ble_eq_true rfl) rfl (fun D h0 => ?_)
  show N D m_Pa_new (nrm 2 3 376) 3 376 0 [some (.ref h0)] [] [(h0, .inr (6, [.null, .null, .null, .int 0, .int 0, .int 0, .int 0, .int 0]))] [] 0 0 _
  refine n_aload_n (x := h0)  d_Pa_new_0 rfl ?_
  refine n_objInit (st := []) (a := h0)  w_275 w_103 wc_obj d_Pa_new_1 (Nat.le_of_ble_eq_true rfl) (Nat.le_of_ble_eq_true rfl) ?_
  refine n_aload_n (x := h0)  d_Pa_new_4 rfl ?_
  refine n_const  (v := (120 : Int32)) d_Pa_new_5 (Or.inr (Or.inl ⟨_, rfl, by decide, rfl⟩)) ?_
  refine n_newai  (n := (120 : Int32)) (N' := 120) w_141 d_Pa_new_7 (by decide) (by decide) (by decide) (Nat.le_of_ble_eq_true rfl) (Nat.le_of_ble_eq_true rfl) (fun q1 c1 => ?_)
  show N D m_Pa_new (nrm 2 3 376) 3 376 9 [some (.ref h0)] [.ref q1, .ref h0] [(h0, .inr (6, [.null, .null, .null, .int 0, .int 0, .int 0, .int 0, .int 0])), (q1, .inl (c1, 120, .inl (fun _ => 0)))] [(c1, .int)] 1 120 _
  refine n_put  (h0 := h0) (fs := [.null, .null, .null, .int 0, .int 0, .int 0, .int 0, .int 0]) (v := .ref q1) fl_RX6_11 rfl rfl rfl rfl (Nat.le_of_ble_eq_true rfl) d_Pa_new_9 ?_
  show N D m_Pa_new (nrm 2 3 376) 3 376 12 [some (.ref h0)] [] [(h0, .inr (6, [.ref q1, .null, .null, .int 0, .int 0, .int 0, .int 0, .int 0])), (q1, .inl (c1, 120, .inl (fun _ => 0)))] [(c1, .int)] 1 120 _
  refine n_aload_n (x := h0)  d_Pa_new_12 rfl ?_
  refine n_const  (v := (128 : Int32)) d_Pa_new_13 (Or.inr (Or.inr ⟨_, rfl, by decide, rfl⟩)) ?_
  refine n_newai  (n := (128 : Int32)) (N' := 128) w_141 d_Pa_new_16 (by decide) (by decide) (by decide) (Nat.le_of_ble_eq_true rfl) (Nat.le_of_ble_eq_true rfl) (fun q2 c2 => ?_)
  show N D m_Pa_new (nrm 2 3 376) 3 376 18 [some (.ref h0)] [.ref q2, .ref h0] [(h0, .inr (6, [.ref q1, .null, .null, .int 0, .int 0, .int 0, .int 0, .int 0])), (q1, .inl (c1, 120, .inl (fun _ => 0))), (q2, .inl (c2, 128, .inl (fun _ => 0)))] [(c1, .int), (c2, .int)] 2 248 _
  refine n_put  (h0 := h0) (fs := [.ref q1, .null, .null, .int 0, .int 0, .int 0, .int 0, .int 0]) (v := .ref q2) fl_RX6_17 rfl rfl rfl rfl (Nat.le_of_ble_eq_true rfl) d_Pa_new_18 ?_
  show N D m_Pa_new (nrm 2 3 376) 3 376 21 [some (.ref h0)] [] [(h0, .inr (6, [.ref q1, .ref q2, .null, .int 0, .int 0, .int 0, .int 0, .int 0])), (q1, .inl (c1, 120, .inl (fun _ => 0))), (q2, .inl (c2, 128, .inl (fun _ => 0)))] [(c1, .int), (c2, .int)] 2 248 _
  refine n_aload_n (x := h0)  d_Pa_new_21 rfl ?_
  refine n_const  (v := (128 : Int32)) d_Pa_new_22 (Or.inr (Or.inr ⟨_, rfl, by decide, rfl⟩)) ?_
  refine n_newai  (n := (128 : Int32)) (N' := 128) w_141 d_Pa_new_25 (by decide) (by decide) (by decide) (Nat.le_of_ble_eq_true rfl) (Nat.le_of_ble_eq_true rfl) (fun q3 c3 => ?_)
  show N D m_Pa_new (nrm 2 3 376) 3 376 27 [some (.ref h0)] [.ref q3, .ref h0] [(h0, .inr (6, [.ref q1, .ref q2, .null, .int 0, .int 0, .int 0, .int 0, .int 0])), (q1, .inl (c1, 120, .inl (fun _ => 0))), (q2, .inl (c2, 128, .inl (fun _ => 0))), (q3, .inl (c3, 128, .inl (fun _ => 0)))] [(c1, .int), (c2, .int), (c3, .int)] 3 376 _
  refine n_put  (h0 := h0) (fs := [.ref q1, .ref q2, .null, .int 0, .int 0, .int 0, .int 0, .int 0]) (v := .ref q3) fl_RX6_20 rfl rfl rfl rfl (Nat.le_of_ble_eq_true rfl) d_Pa_new_27 ?_
  show N D m_Pa_new (nrm 2 3 376) 3 376 30 [some (.ref h0)] [] [(h0, .inr (6, [.ref q1, .ref q2, .ref q3, .int 0, .int 0, .int 0, .int 0, .int 0])), (q1, .inl (c1, 120, .inl (fun _ => 0))), (q2, .inl (c2, 128, .inl (fun _ => 0))), (q3, .inl (c3, 128, .inl (fun _ => 0)))] [(c1, .int), (c2, .int), (c3, .int)] 3 376 _
  refine n_ret  rfl (Nat.le_refl _) (Nat.le_refl _) (Nat.le_refl _) (Nat.le_refl _) d_Pa_new_30 ?_
  exact ⟨(fun k => ([h0, q1, q2, q3] : List Nat).getD k 0), (fun k => ([0, c1, c2, c3] : List ClassId).getD k 0), rfl, rfl, rfl⟩
def sh_1 : List gSh := [.inl (1, [some 1, some 2, some 3, some 4, none, none]), .inr (.inl 40), .inr (.inl 40), .inr (.inl 40), .inr (.inl 40)]
set_option maxRecDepth 100000 in
theorem k_Ch_new : NCt m_Ch_new 1 2 4 160 [.null, .null, .null, .null, .int 0, .int 0] (fun h0 ws tys => ∃ (ad : Nat → Nat) (cA : Nat → ClassId), ad 0 = h0 ∧ ws = gL ad cA gz 0 sh_1 ∧ tys = gYL cA 0 sh_1) := by
  refine NCt.of (by decide +kernel) (Nat.le_of_ble_eq_true rfl) rfl (fun D h0 => ?_)
  show N D m_Ch_new (nrm 2 4 160) 4 160 0 [some (.ref h0)] [] [(h0, .inr (1, [.null, .null, .null, .null, .int 0, .int 0]))] [] 0 0 _
  refine n_aload_n (x := h0)  d_Ch_new_0 rfl ?_
  refine n_objInit (st := []) (a := h0)  w_307 w_103 wc_obj d_Ch_new_1 (Nat.le_of_ble_eq_true rfl) (Nat.le_of_ble_eq_true rfl) ?_
  refine n_aload_n (x := h0)  d_Ch_new_4 rfl ?_
  refine n_const  (v := (40 : Int32)) d_Ch_new_5 (Or.inr (Or.inl ⟨_, rfl, by decide, rfl⟩)) ?_
  refine n_newai  (n := (40 : Int32)) (N' := 40) w_141 d_Ch_new_7 (by decide) (by decide) (by decide) (Nat.le_of_ble_eq_true rfl) (Nat.le_of_ble_eq_true rfl) (fun q1 c1 => ?_)
  show N D m_Ch_new (nrm 2 4 160) 4 160 9 [some (.ref h0)] [.ref q1, .ref h0] [(h0, .inr (1, [.null, .null, .null, .null, .int 0, .int 0])), (q1, .inl (c1, 40, .inl (fun _ => 0)))] [(c1, .int)] 1 40 _
  refine n_put  (h0 := h0) (fs := [.null, .null, .null, .null, .int 0, .int 0]) (v := .ref q1) fl_RX1_9 rfl rfl rfl rfl (Nat.le_of_ble_eq_true rfl) d_Ch_new_9 ?_
  show N D m_Ch_new (nrm 2 4 160) 4 160 12 [some (.ref h0)] [] [(h0, .inr (1, [.ref q1, .null, .null, .null, .int 0, .int 0])), (q1, .inl (c1, 40, .inl (fun _ => 0)))] [(c1, .int)] 1 40 _
  refine n_aload_n (x := h0)  d_Ch_new_12 rfl ?_
  refine n_const  (v := (40 : Int32)) d_Ch_new_13 (Or.inr (Or.inl ⟨_, rfl, by decide, rfl⟩)) ?_
  refine n_newai  (n := (40 : Int32)) (N' := 40) w_141 d_Ch_new_15 (by decide) (by decide) (by decide) (Nat.le_of_ble_eq_true rfl) (Nat.le_of_ble_eq_true rfl) (fun q2 c2 => ?_)
  show N D m_Ch_new (nrm 2 4 160) 4 160 17 [some (.ref h0)] [.ref q2, .ref h0] [(h0, .inr (1, [.ref q1, .null, .null, .null, .int 0, .int 0])), (q1, .inl (c1, 40, .inl (fun _ => 0))), (q2, .inl (c2, 40, .inl (fun _ => 0)))] [(c1, .int), (c2, .int)] 2 80 _
  refine n_put  (h0 := h0) (fs := [.ref q1, .null, .null, .null, .int 0, .int 0]) (v := .ref q2) fl_RX1_13 rfl rfl rfl rfl (Nat.le_of_ble_eq_true rfl) d_Ch_new_17 ?_
  show N D m_Ch_new (nrm 2 4 160) 4 160 20 [some (.ref h0)] [] [(h0, .inr (1, [.ref q1, .ref q2, .null, .null, .int 0, .int 0])), (q1, .inl (c1, 40, .inl (fun _ => 0))), (q2, .inl (c2, 40, .inl (fun _ => 0)))] [(c1, .int), (c2, .int)] 2 80 _
  refine n_aload_n (x := h0)  d_Ch_new_20 rfl ?_
  refine n_const  (v := (40 : Int32)) d_Ch_new_21 (Or.inr (Or.inl ⟨_, rfl, by decide, rfl⟩)) ?_
  refine n_newai  (n := (40 : Int32)) (N' := 40) w_141 d_Ch_new_23 (by decide) (by decide) (by decide) (Nat.le_of_ble_eq_true rfl) (Nat.le_of_ble_eq_true rfl) (fun q3 c3 => ?_)
  show N D m_Ch_new (nrm 2 4 160) 4 160 25 [some (.ref h0)] [.ref q3, .ref h0] [(h0, .inr (1, [.ref q1, .ref q2, .null, .null, .int 0, .int 0])), (q1, .inl (c1, 40, .inl (fun _ => 0))), (q2, .inl (c2, 40, .inl (fun _ => 0))), (q3, .inl (c3, 40, .inl (fun _ => 0)))] [(c1, .int), (c2, .int), (c3, .int)] 3 120 _
  refine n_put  (h0 := h0) (fs := [.ref q1, .ref q2, .null, .null, .int 0, .int 0]) (v := .ref q3) fl_RX1_16 rfl rfl rfl rfl (Nat.le_of_ble_eq_true rfl) d_Ch_new_25 ?_
  show N D m_Ch_new (nrm 2 4 160) 4 160 28 [some (.ref h0)] [] [(h0, .inr (1, [.ref q1, .ref q2, .ref q3, .null, .int 0, .int 0])), (q1, .inl (c1, 40, .inl (fun _ => 0))), (q2, .inl (c2, 40, .inl (fun _ => 0))), (q3, .inl (c3, 40, .inl (fun _ => 0)))] [(c1, .int), (c2, .int), (c3, .int)] 3 120 _
  refine n_aload_n (x := h0)  d_Ch_new_28 rfl ?_
  refine n_const  (v := (40 : Int32)) d_Ch_new_29 (Or.inr (Or.inl ⟨_, rfl, by decide, rfl⟩)) ?_
  refine n_newai  (n := (40 : Int32)) (N' := 40) w_141 d_Ch_new_31 (by decide) (by decide) (by decide) (Nat.le_of_ble_eq_true rfl) (Nat.le_of_ble_eq_true rfl) (fun q4 c4 => ?_)
  show N D m_Ch_new (nrm 2 4 160) 4 160 33 [some (.ref h0)] [.ref q4, .ref h0] [(h0, .inr (1, [.ref q1, .ref q2, .ref q3, .null, .int 0, .int 0])), (q1, .inl (c1, 40, .inl (fun _ => 0))), (q2, .inl (c2, 40, .inl (fun _ => 0))), (q3, .inl (c3, 40, .inl (fun _ => 0))), (q4, .inl (c4, 40, .inl (fun _ => 0)))] [(c1, .int), (c2, .int), (c3, .int), (c4, .int)] 4 160 _
  refine n_put  (h0 := h0) (fs := [.ref q1, .ref q2, .ref q3, .null, .int 0, .int 0]) (v := .ref q4) fl_RX1_19 rfl rfl rfl rfl (Nat.le_of_ble_eq_true rfl) d_Ch_new_33 ?_
  show N D m_Ch_new (nrm 2 4 160) 4 160 36 [some (.ref h0)] [] [(h0, .inr (1, [.ref q1, .ref q2, .ref q3, .ref q4, .int 0, .int 0])), (q1, .inl (c1, 40, .inl (fun _ => 0))), (q2, .inl (c2, 40, .inl (fun _ => 0))), (q3, .inl (c3, 40, .inl (fun _ => 0))), (q4, .inl (c4, 40, .inl (fun _ => 0)))] [(c1, .int), (c2, .int), (c3, .int), (c4, .int)] 4 160 _
  refine n_ret  rfl (Nat.le_refl _) (Nat.le_refl _) (Nat.le_refl _) (Nat.le_refl _) d_Ch_new_36 ?_
  exact ⟨(fun k => ([h0, q1, q2, q3, q4] : List Nat).getD k 0), (fun k => ([0, c1, c2, c3, c4] : List ClassId).getD k 0), rfl, rfl, rfl⟩
def sh_5 : List gSh := [.inl (5, [some 1, none, none]), .inr (.inl 5)]
set_option maxRecDepth 100000 in
theorem k_Le_new : NCt m_Le_new 5 2 1 5 [.null, .int 0, .int 0] (fun h0 ws tys => ∃ (ad : Nat → Nat) (cA : Nat → ClassId), ad 0 = h0 ∧ ws = gL ad cA gz 0 sh_5 ∧ tys = gYL cA 0 sh_5) := by
  refine NCt.of (by decide +kernel) (Nat.le_of_ble_eq_true rfl) rfl (fun D h0 => ?_)
  show N D m_Le_new (nrm 2 1 5) 1 5 0 [some (.ref h0)] [] [(h0, .inr (5, [.null, .int 0, .int 0]))] [] 0 0 _
  refine n_aload_n (x := h0)  d_Le_new_0 rfl ?_
  refine n_objInit (st := []) (a := h0)  w_334 w_103 wc_obj d_Le_new_1 (Nat.le_of_ble_eq_true rfl) (Nat.le_of_ble_eq_true rfl) ?_
  refine n_aload_n (x := h0)  d_Le_new_4 rfl ?_
  refine n_const  (v := (5 : Int32)) d_Le_new_5 (Or.inl ⟨_, rfl, by decide, rfl⟩) ?_
  refine n_newai  (n := (5 : Int32)) (N' := 5) w_141 d_Le_new_6 (by decide) (by decide) (by decide) (Nat.le_of_ble_eq_true rfl) (Nat.le_of_ble_eq_true rfl) (fun q1 c1 => ?_)
  show N D m_Le_new (nrm 2 1 5) 1 5 8 [some (.ref h0)] [.ref q1, .ref h0] [(h0, .inr (5, [.null, .int 0, .int 0])), (q1, .inl (c1, 5, .inl (fun _ => 0)))] [(c1, .int)] 1 5 _
  refine n_put  (h0 := h0) (fs := [.null, .int 0, .int 0]) (v := .ref q1) fl_RX5_9 rfl rfl rfl rfl (Nat.le_of_ble_eq_true rfl) d_Le_new_8 ?_
  show N D m_Le_new (nrm 2 1 5) 1 5 11 [some (.ref h0)] [] [(h0, .inr (5, [.ref q1, .int 0, .int 0])), (q1, .inl (c1, 5, .inl (fun _ => 0)))] [(c1, .int)] 1 5 _
  refine n_ret  rfl (Nat.le_refl _) (Nat.le_refl _) (Nat.le_refl _) (Nat.le_refl _) d_Le_new_11 ?_
  exact ⟨(fun k => ([h0, q1] : List Nat).getD k 0), (fun k => ([0, c1] : List ClassId).getD k 0), rfl, rfl, rfl⟩
def sh_7 : List gSh := [.inl (7, [some 1, some 2, some 3, none, none, none]), .inr (.inl 10), .inr (.inl 10), .inl (5, [some 4, none, none]), .inr (.inl 5)]
set_option maxRecDepth 100000 in
theorem k_Pi_new : NCt m_Pi_new 7 3 4 28 [.null, .null, .null, .int 0, .int 0, .int 0] (fun h0 ws tys => ∃ (ad : Nat → Nat) (cA : Nat → ClassId), ad 0 = h0 ∧ ws = gL ad cA gz 0 sh_7 ∧ tys = gYL cA 0 sh_7) := by
  refine NCt.of (by decide +kernel) (Nat.le_of_ble_eq_true rfl) rfl (fun D h0 => ?_)
  show N D m_Pi_new (nrm 3 4 28) 4 28 0 [some (.ref h0)] [] [(h0, .inr (7, [.null, .null, .null, .int 0, .int 0, .int 0]))] [] 0 0 _
  refine n_aload_n (x := h0)  d_Pi_new_0 rfl ?_
  refine n_objInit (st := []) (a := h0)  w_352 w_103 wc_obj d_Pi_new_1 (Nat.le_of_ble_eq_true rfl) (Nat.le_of_ble_eq_true rfl) ?_
  refine n_aload_n (x := h0)  d_Pi_new_4 rfl ?_
  refine n_const  (v := (10 : Int32)) d_Pi_new_5 (Or.inr (Or.inl ⟨_, rfl, by decide, rfl⟩)) ?_
  refine n_newai  (n := (10 : Int32)) (N' := 10) w_141 d_Pi_new_7 (by decide) (by decide) (by decide) (Nat.le_of_ble_eq_true rfl) (Nat.le_of_ble_eq_true rfl) (fun q1 c1 => ?_)
  show N D m_Pi_new (nrm 3 4 28) 4 28 9 [some (.ref h0)] [.ref q1, .ref h0] [(h0, .inr (7, [.null, .null, .null, .int 0, .int 0, .int 0])), (q1, .inl (c1, 10, .inl (fun _ => 0)))] [(c1, .int)] 1 10 _
  refine n_put  (h0 := h0) (fs := [.null, .null, .null, .int 0, .int 0, .int 0]) (v := .ref q1) fl_RX7_9 rfl rfl rfl rfl (Nat.le_of_ble_eq_true rfl) d_Pi_new_9 ?_
  show N D m_Pi_new (nrm 3 4 28) 4 28 12 [some (.ref h0)] [] [(h0, .inr (7, [.ref q1, .null, .null, .int 0, .int 0, .int 0])), (q1, .inl (c1, 10, .inl (fun _ => 0)))] [(c1, .int)] 1 10 _
  refine n_aload_n (x := h0)  d_Pi_new_12 rfl ?_
  refine n_const  (v := (10 : Int32)) d_Pi_new_13 (Or.inr (Or.inl ⟨_, rfl, by decide, rfl⟩)) ?_
  refine n_newai  (n := (10 : Int32)) (N' := 10) w_141 d_Pi_new_15 (by decide) (by decide) (by decide) (Nat.le_of_ble_eq_true rfl) (Nat.le_of_ble_eq_true rfl) (fun q2 c2 => ?_)
  show N D m_Pi_new (nrm 3 4 28) 4 28 17 [some (.ref h0)] [.ref q2, .ref h0] [(h0, .inr (7, [.ref q1, .null, .null, .int 0, .int 0, .int 0])), (q1, .inl (c1, 10, .inl (fun _ => 0))), (q2, .inl (c2, 10, .inl (fun _ => 0)))] [(c1, .int), (c2, .int)] 2 20 _
  refine n_put  (h0 := h0) (fs := [.ref q1, .null, .null, .int 0, .int 0, .int 0]) (v := .ref q2) fl_RX7_15 rfl rfl rfl rfl (Nat.le_of_ble_eq_true rfl) d_Pi_new_17 ?_
  show N D m_Pi_new (nrm 3 4 28) 4 28 20 [some (.ref h0)] [] [(h0, .inr (7, [.ref q1, .ref q2, .null, .int 0, .int 0, .int 0])), (q1, .inl (c1, 10, .inl (fun _ => 0))), (q2, .inl (c2, 10, .inl (fun _ => 0)))] [(c1, .int), (c2, .int)] 2 20 _
  refine n_aload_n (x := h0)  d_Pi_new_20 rfl ?_
  refine n_new  (ci := 5) (fs := [.null, .int 0, .int 0]) uw_5 tyX5_ok w_353 w_330 w_83 rfl df_5 (Nat.le_of_ble_eq_true rfl) (Nat.le_of_ble_eq_true rfl) d_Pi_new_21 (fun q3 => ?_)
  show N D m_Pi_new (nrm 3 4 28) 4 28 24 [some (.ref h0)] [.ref q3, .ref h0] ([(h0, .inr (7, [.ref q1, .ref q2, .null, .int 0, .int 0, .int 0])), (q1, .inl (c1, 10, .inl (fun _ => 0))), (q2, .inl (c2, 10, .inl (fun _ => 0)))] ++ [(q3, .inr (5, [.null, .int 0, .int 0]))]) [(c1, .int), (c2, .int)] 3 23 _
  refine n_dup (v := .ref q3) d_Pi_new_24 rfl ?_
  refine n_init (q := q3) (st := [.ref q3, .ref h0]) k_Le_new w_333 rfl ⟨"TwoAgree", List.mem_of_getElem? (i := 9) (by decide +kernel)⟩ w_83 w_332 rfl (by decide +kernel) (Nat.le_of_ble_eq_true rfl) (Nat.le_of_ble_eq_true rfl) (Nat.le_of_ble_eq_true rfl) (Nat.le_of_ble_eq_true rfl) (Nat.le_of_ble_eq_true rfl) (Nat.le_of_ble_eq_true rfl) d_Pi_new_25 (fun w3 t3 hq => ?_)
  obtain ⟨ad3, ca3, e3, rfl, rfl⟩ := hq
  subst e3
  show N D m_Pi_new (nrm 3 4 28) 4 28 28 [some (.ref h0)] [.ref (ad3 0), .ref h0] [(h0, .inr (7, [.ref q1, .ref q2, .null, .int 0, .int 0, .int 0])), (q1, .inl (c1, 10, .inl (fun _ => 0))), (q2, .inl (c2, 10, .inl (fun _ => 0))), (ad3 0, .inr (5, [.ref (ad3 1), .int 0, .int 0])), (ad3 1, .inl (ca3 1, 5, .inl (fun _ => 0)))] [(c1, .int), (c2, .int), (ca3 1, .int)] 4 28 _
  refine n_put  (h0 := h0) (fs := [.ref q1, .ref q2, .null, .int 0, .int 0, .int 0]) (v := .ref (ad3 0)) fl_RX7_21 rfl rfl rfl rfl (Nat.le_of_ble_eq_true rfl) d_Pi_new_28 ?_
  show N D m_Pi_new (nrm 3 4 28) 4 28 31 [some (.ref h0)] [] [(h0, .inr (7, [.ref q1, .ref q2, .ref (ad3 0), .int 0, .int 0, .int 0])), (q1, .inl (c1, 10, .inl (fun _ => 0))), (q2, .inl (c2, 10, .inl (fun _ => 0))), (ad3 0, .inr (5, [.ref (ad3 1), .int 0, .int 0])), (ad3 1, .inl (ca3 1, 5, .inl (fun _ => 0)))] [(c1, .int), (c2, .int), (ca3 1, .int)] 4 28 _
  refine n_ret  rfl (Nat.le_refl _) (Nat.le_refl _) (Nat.le_refl _) (Nat.le_refl _) d_Pi_new_31 ?_
  exact ⟨(fun k => ([h0, q1, q2, (ad3 0), (ad3 1)] : List Nat).getD k 0), (fun k => ([0, c1, c2, 0, (ca3 1)] : List ClassId).getD k 0), rfl, rfl, rfl⟩
def sh_9 : List gSh := [.inl (9, [some 1, some 2, none, none, none]), .inr (.inl 50), .inr (.inl 24)]
set_option maxRecDepth 100000 in
theorem k_Wo_new : NCt m_Wo_new 9 2 2 74 [.null, .null, .int 0, .int 0, .int 0] (fun h0 ws tys => ∃ (ad : Nat → Nat) (cA : Nat → ClassId), ad 0 = h0 ∧ ws = gL ad cA gz 0 sh_9 ∧ tys = gYL cA 0 sh_9) := by
  refine NCt.of (by decide +kernel) (Nat.le_of_ble_eq_true rfl) rfl (fun D h0 => ?_)
  show N D m_Wo_new (nrm 2 2 74) 2 74 0 [some (.ref h0)] [] [(h0, .inr (9, [.null, .null, .int 0, .int 0, .int 0]))] [] 0 0 _
  refine n_aload_n (x := h0)  d_Wo_new_0 rfl ?_
  refine n_objInit (st := []) (a := h0)  w_380 w_103 wc_obj d_Wo_new_1 (Nat.le_of_ble_eq_true rfl) (Nat.le_of_ble_eq_true rfl) ?_
  refine n_aload_n (x := h0)  d_Wo_new_4 rfl ?_
  refine n_const  (v := (50 : Int32)) d_Wo_new_5 (Or.inr (Or.inl ⟨_, rfl, by decide, rfl⟩)) ?_
  refine n_newai  (n := (50 : Int32)) (N' := 50) w_141 d_Wo_new_7 (by decide) (by decide) (by decide) (Nat.le_of_ble_eq_true rfl) (Nat.le_of_ble_eq_true rfl) (fun q1 c1 => ?_)
  show N D m_Wo_new (nrm 2 2 74) 2 74 9 [some (.ref h0)] [.ref q1, .ref h0] [(h0, .inr (9, [.null, .null, .int 0, .int 0, .int 0])), (q1, .inl (c1, 50, .inl (fun _ => 0)))] [(c1, .int)] 1 50 _
  refine n_put  (h0 := h0) (fs := [.null, .null, .int 0, .int 0, .int 0]) (v := .ref q1) fl_RX9_11 rfl rfl rfl rfl (Nat.le_of_ble_eq_true rfl) d_Wo_new_9 ?_
  show N D m_Wo_new (nrm 2 2 74) 2 74 12 [some (.ref h0)] [] [(h0, .inr (9, [.ref q1, .null, .int 0, .int 0, .int 0])), (q1, .inl (c1, 50, .inl (fun _ => 0)))] [(c1, .int)] 1 50 _
  refine n_aload_n (x := h0)  d_Wo_new_12 rfl ?_
  refine n_const  (v := (24 : Int32)) d_Wo_new_13 (Or.inr (Or.inl ⟨_, rfl, by decide, rfl⟩)) ?_
  refine n_newai  (n := (24 : Int32)) (N' := 24) w_141 d_Wo_new_15 (by decide) (by decide) (by decide) (Nat.le_of_ble_eq_true rfl) (Nat.le_of_ble_eq_true rfl) (fun q2 c2 => ?_)
  show N D m_Wo_new (nrm 2 2 74) 2 74 17 [some (.ref h0)] [.ref q2, .ref h0] [(h0, .inr (9, [.ref q1, .null, .int 0, .int 0, .int 0])), (q1, .inl (c1, 50, .inl (fun _ => 0))), (q2, .inl (c2, 24, .inl (fun _ => 0)))] [(c1, .int), (c2, .int)] 2 74 _
  refine n_put  (h0 := h0) (fs := [.ref q1, .null, .int 0, .int 0, .int 0]) (v := .ref q2) fl_RX9_15 rfl rfl rfl rfl (Nat.le_of_ble_eq_true rfl) d_Wo_new_17 ?_
  show N D m_Wo_new (nrm 2 2 74) 2 74 20 [some (.ref h0)] [] [(h0, .inr (9, [.ref q1, .ref q2, .int 0, .int 0, .int 0])), (q1, .inl (c1, 50, .inl (fun _ => 0))), (q2, .inl (c2, 24, .inl (fun _ => 0)))] [(c1, .int), (c2, .int)] 2 74 _
  refine n_ret  rfl (Nat.le_refl _) (Nat.le_refl _) (Nat.le_refl _) (Nat.le_refl _) d_Wo_new_20 ?_
  exact ⟨(fun k => ([h0, q1, q2] : List Nat).getD k 0), (fun k => ([0, c1, c2] : List ClassId).getD k 0), rfl, rfl, rfl⟩
def sh_8 : List gSh := [.inl (8, [some 1, none, none, none, none]), .inr (.inr (.inl 60))]
set_option maxRecDepth 100000 in
theorem k_Sh_new : NCt m_Sh_new 8 2 1 60 [.null, .int 0, .int 0, .int 0, .int 0] (fun h0 ws tys => ∃ (ad : Nat → Nat) (cA : Nat → ClassId), ad 0 = h0 ∧ ws = gL ad cA gz 0 sh_8 ∧ tys = gYL cA 0 sh_8) := by
  refine NCt.of (by decide +kernel) (Nat.le_of_ble_eq_true rfl) rfl (fun D h0 => ?_)
  show N D m_Sh_new (nrm 2 1 60) 1 60 0 [some (.ref h0)] [] [(h0, .inr (8, [.null, .int 0, .int 0, .int 0, .int 0]))] [] 0 0 _
  refine n_aload_n (x := h0)  d_Sh_new_0 rfl ?_
  refine n_objInit (st := []) (a := h0)  w_407 w_103 wc_obj d_Sh_new_1 (Nat.le_of_ble_eq_true rfl) (Nat.le_of_ble_eq_true rfl) ?_
  refine n_aload_n (x := h0)  d_Sh_new_4 rfl ?_
  refine n_const  (v := (60 : Int32)) d_Sh_new_5 (Or.inr (Or.inl ⟨_, rfl, by decide, rfl⟩)) ?_
  refine n_newal  (n := (60 : Int32)) (N' := 60) w_429 d_Sh_new_7 (by decide) (by decide) (by decide) (Nat.le_of_ble_eq_true rfl) (Nat.le_of_ble_eq_true rfl) (fun q1 c1 => ?_)
  show N D m_Sh_new (nrm 2 1 60) 1 60 9 [some (.ref h0)] [.ref q1, .ref h0] [(h0, .inr (8, [.null, .int 0, .int 0, .int 0, .int 0])), (q1, .inl (c1, 60, .inr (.inl (fun _ => 0))))] [(c1, .long)] 1 60 _
  refine n_put  (h0 := h0) (fs := [.null, .int 0, .int 0, .int 0, .int 0]) (v := .ref q1) fl_RX8_11 rfl rfl rfl rfl (Nat.le_of_ble_eq_true rfl) d_Sh_new_9 ?_
  show N D m_Sh_new (nrm 2 1 60) 1 60 12 [some (.ref h0)] [] [(h0, .inr (8, [.ref q1, .int 0, .int 0, .int 0, .int 0])), (q1, .inl (c1, 60, .inr (.inl (fun _ => 0))))] [(c1, .long)] 1 60 _
  refine n_ret  rfl (Nat.le_refl _) (Nat.le_refl _) (Nat.le_refl _) (Nat.le_refl _) d_Sh_new_12 ?_
  exact ⟨(fun k => ([h0, q1] : List Nat).getD k 0), (fun k => ([0, c1] : List ClassId).getD k 0), rfl, rfl, rfl⟩
def sh_10 : List gSh := [.inl (10, [some 1, some 11, some 18, some 27, some 31, some 36, some 38, some 43, some 46]), .inl (3, [some 2, some 3, some 4, some 5, some 6, some 10, none, none, none, none]), .inr (.inl 10), .inr (.inl 10), .inr (.inl 10), .inr (.inl 10), .inl (4, [some 7, some 8, some 9, none, none, none]), .inr (.inl 128), .inr (.inl 128), .inr (.inl 128), .inr (.inl 6), .inl (2, [some 12, some 13, none, none, some 14, some 15, some 16, some 17]), .inr (.inl 10), .inr (.inl 10), .inr (.inl 6), .inr (.inl 10), .inr (.inl 8), .inr (.inl 240), .inl (0, [some 19, some 26, none, none, none, none, none, none, none]), .inl (2, [some 20, some 21, none, none, some 22, some 23, some 24, some 25]), .inr (.inl 10), .inr (.inl 10), .inr (.inl 6), .inr (.inl 10), .inr (.inl 8), .inr (.inl 240), .inr (.inl 10), .inl (6, [some 28, some 29, some 30, none, none, none, none, none]), .inr (.inl 120), .inr (.inl 128), .inr (.inl 128), .inl (1, [some 32, some 33, some 34, some 35, none, none]), .inr (.inl 40), .inr (.inl 40), .inr (.inl 40), .inr (.inl 40), .inl (5, [some 37, none, none]), .inr (.inl 5), .inl (7, [some 39, some 40, some 41, none, none, none]), .inr (.inl 10), .inr (.inl 10), .inl (5, [some 42, none, none]), .inr (.inl 5), .inl (9, [some 44, some 45, none, none, none]), .inr (.inl 50), .inr (.inl 24), .inr (.inr (.inr [47, 49, 51, 53, 55, 57])), .inl (8, [some 48, none, none, none, none]), .inr (.inr (.inl 60)), .inl (8, [some 50, none, none, none, none]), .inr (.inr (.inl 60)), .inl (8, [some 52, none, none, none, none]), .inr (.inr (.inl 60)), .inl (8, [some 54, none, none, none, none]), .inr (.inr (.inl 60)), .inl (8, [some 56, none, none, none, none]), .inr (.inr (.inl 60)), .inl (8, [some 58, none, none, none, none]), .inr (.inr (.inl 60))]
set_option maxRecDepth 100000 in
theorem k_T_new : NCt m_T_new 10 4 58 2116 [.null, .null, .null, .null, .null, .null, .null, .null, .null] (fun h0 ws tys => ∃ (ad : Nat → Nat) (cA : Nat → ClassId), ad 0 = h0 ∧ ws = gL ad cA gz 0 sh_10 ∧ tys = gYL cA 0 sh_10) := by
  refine NCt.of (by decide +kernel) (Nat.le_of_ble_eq_true rfl) rfl (fun D h0 => ?_)
  show N D m_T_new (nrm 4 58 2116) 58 2116 0 [some (.ref h0), none] [] ((h0, .inr (10, [.null, .null, .null, .null, .null, .null, .null, .null, .null])) :: []) [] 0 0 _
  refine n_aload_n (x := h0)  d_T_new_0 rfl ?_
  refine n_objInit (st := []) (a := h0)  w_102 w_103 wc_obj d_T_new_1 (Nat.le_of_ble_eq_true rfl) (Nat.le_of_ble_eq_true rfl) ?_
  refine n_aload_n (x := h0)  d_T_new_4 rfl ?_
  refine n_new  (ci := 3) (fs := [.null, .null, .null, .null, .null, .null, .int 0, .int 0, .int 0, .int 0]) uw_3 tyX3_ok w_105 w_106 w_77 rfl df_3 (Nat.le_of_ble_eq_true rfl) (Nat.le_of_ble_eq_true rfl) d_T_new_5 (fun q1 => ?_)
  show N D m_T_new (nrm 4 58 2116) 58 2116 8 [some (.ref h0), none] [.ref q1, .ref h0] (((h0, .inr (10, [.null, .null, .null, .null, .null, .null, .null, .null, .null])) :: []) ++ [(q1, .inr (3, [.null, .null, .null, .null, .null, .null, .int 0, .int 0, .int 0, .int 0]))]) [] 1 10 _
  refine n_dup (v := .ref q1) d_T_new_8 rfl ?_
  refine n_init (q := q1) (st := [.ref q1, .ref h0]) k_Isl_new w_109 rfl ⟨"TwoAgree", List.mem_of_getElem? (i := 0) (by decide +kernel)⟩ w_77 w_108 rfl (by decide +kernel) (Nat.le_of_ble_eq_true rfl) (Nat.le_of_ble_eq_true rfl) (Nat.le_of_ble_eq_true rfl) (Nat.le_of_ble_eq_true rfl) (Nat.le_of_ble_eq_true rfl) (Nat.le_of_ble_eq_true rfl) d_T_new_9 (fun w1 t1 hq => ?_)
  obtain ⟨ad1, ca1, e1, hw1, ht1⟩ := hq
  subst e1
  obtain ⟨W1, hW1⟩ : ∃ W : va_W, W = [] ++ w1 := ⟨_, rfl⟩
  obtain ⟨T1, hT1⟩ : ∃ T : nT, T = [] ++ t1 := ⟨_, rfl⟩
  rw [show ((h0, .inr (10, [.null, .null, .null, .null, .null, .null, .null, .null, .null])) :: []) ++ w1 = (h0, .inr (10, [.null, .null, .null, .null, .null, .null, .null, .null, .null])) :: W1 from by rw [hW1]; rfl, ← hT1]
  show N D m_T_new (nrm 4 58 2116) 58 2116 12 [some (.ref h0), none] [.ref (ad1 0), .ref h0] ((h0, .inr (10, [.null, .null, .null, .null, .null, .null, .null, .null, .null])) :: W1) T1 10 446 _
  refine n_put  (h0 := h0) (fs := [.null, .null, .null, .null, .null, .null, .null, .null, .null]) (v := .ref (ad1 0)) fl_RX10_10 rfl rfl rfl rfl (Nat.le_of_ble_eq_true rfl) d_T_new_12 ?_
  show N D m_T_new (nrm 4 58 2116) 58 2116 15 [some (.ref h0), none] [] ((h0, .inr (10, [.ref (ad1 0), .null, .null, .null, .null, .null, .null, .null, .null])) :: W1) T1 10 446 _
  refine n_aload_n (x := h0)  d_T_new_15 rfl ?_
  refine n_new  (ci := 2) (fs := [.null, .null, .int 0, .int 0, .null, .null, .null, .null]) uw_2 tyX2_ok w_194 w_195 w_79 rfl df_2 (Nat.le_of_ble_eq_true rfl) (Nat.le_of_ble_eq_true rfl) d_T_new_16 (fun q2 => ?_)
  show N D m_T_new (nrm 4 58 2116) 58 2116 19 [some (.ref h0), none] [.ref q2, .ref h0] (((h0, .inr (10, [.ref (ad1 0), .null, .null, .null, .null, .null, .null, .null, .null])) :: W1) ++ [(q2, .inr (2, [.null, .null, .int 0, .int 0, .null, .null, .null, .null]))]) T1 11 454 _
  refine n_dup (v := .ref q2) d_T_new_19 rfl ?_
  refine n_init (q := q2) (st := [.ref q2, .ref h0]) k_Cr_new w_198 rfl ⟨"TwoAgree", List.mem_of_getElem? (i := 2) (by decide +kernel)⟩ w_79 w_197 rfl (by decide +kernel) (Nat.le_of_ble_eq_true rfl) (Nat.le_of_ble_eq_true rfl) (Nat.le_of_ble_eq_true rfl) (Nat.le_of_ble_eq_true rfl) (Nat.le_of_ble_eq_true rfl) (Nat.le_of_ble_eq_true rfl) d_T_new_20 (fun w2 t2 hq => ?_)
  obtain ⟨ad2, ca2, e2, hw2, ht2⟩ := hq
  subst e2
  obtain ⟨W2, hW2⟩ : ∃ W : va_W, W = W1 ++ w2 := ⟨_, rfl⟩
  obtain ⟨T2, hT2⟩ : ∃ T : nT, T = T1 ++ t2 := ⟨_, rfl⟩
  rw [show ((h0, .inr (10, [.ref (ad1 0), .null, .null, .null, .null, .null, .null, .null, .null])) :: W1) ++ w2 = (h0, .inr (10, [.ref (ad1 0), .null, .null, .null, .null, .null, .null, .null, .null])) :: W2 from by rw [hW2]; rfl, ← hT2]
  show N D m_T_new (nrm 4 58 2116) 58 2116 23 [some (.ref h0), none] [.ref (ad2 0), .ref h0] ((h0, .inr (10, [.ref (ad1 0), .null, .null, .null, .null, .null, .null, .null, .null])) :: W2) T2 17 738 _
  refine n_put  (h0 := h0) (fs := [.ref (ad1 0), .null, .null, .null, .null, .null, .null, .null, .null]) (v := .ref (ad2 0)) fl_RX10_19 rfl rfl rfl rfl (Nat.le_of_ble_eq_true rfl) d_T_new_23 ?_
  show N D m_T_new (nrm 4 58 2116) 58 2116 26 [some (.ref h0), none] [] ((h0, .inr (10, [.ref (ad1 0), .ref (ad2 0), .null, .null, .null, .null, .null, .null, .null])) :: W2) T2 17 738 _
  refine n_aload_n (x := h0)  d_T_new_26 rfl ?_
  refine n_new  (ci := 0) (fs := [.null, .null, .int 0, .int 0, .int 0, .int 0, .int 0, .int 0, .int 0]) uw_0 tyX0_ok w_230 w_231 w_80 rfl df_0 (Nat.le_of_ble_eq_true rfl) (Nat.le_of_ble_eq_true rfl) d_T_new_27 (fun q3 => ?_)
  show N D m_T_new (nrm 4 58 2116) 58 2116 30 [some (.ref h0), none] [.ref q3, .ref h0] (((h0, .inr (10, [.ref (ad1 0), .ref (ad2 0), .null, .null, .null, .null, .null, .null, .null])) :: W2) ++ [(q3, .inr (0, [.null, .null, .int 0, .int 0, .int 0, .int 0, .int 0, .int 0, .int 0]))]) T2 18 747 _
  refine n_dup (v := .ref q3) d_T_new_30 rfl ?_
  refine n_init (q := q3) (st := [.ref q3, .ref h0]) k_Br_new w_234 rfl ⟨"TwoAgree", List.mem_of_getElem? (i := 3) (by decide +kernel)⟩ w_80 w_233 rfl (by decide +kernel) (Nat.le_of_ble_eq_true rfl) (Nat.le_of_ble_eq_true rfl) (Nat.le_of_ble_eq_true rfl) (Nat.le_of_ble_eq_true rfl) (Nat.le_of_ble_eq_true rfl) (Nat.le_of_ble_eq_true rfl) d_T_new_31 (fun w3 t3 hq => ?_)
  obtain ⟨ad3, ca3, e3, hw3, ht3⟩ := hq
  subst e3
  obtain ⟨W3, hW3⟩ : ∃ W : va_W, W = W2 ++ w3 := ⟨_, rfl⟩
  obtain ⟨T3, hT3⟩ : ∃ T : nT, T = T2 ++ t3 := ⟨_, rfl⟩
  rw [show ((h0, .inr (10, [.ref (ad1 0), .ref (ad2 0), .null, .null, .null, .null, .null, .null, .null])) :: W2) ++ w3 = (h0, .inr (10, [.ref (ad1 0), .ref (ad2 0), .null, .null, .null, .null, .null, .null, .null])) :: W3 from by rw [hW3]; rfl, ← hT3]
  show N D m_T_new (nrm 4 58 2116) 58 2116 34 [some (.ref h0), none] [.ref (ad3 0), .ref h0] ((h0, .inr (10, [.ref (ad1 0), .ref (ad2 0), .null, .null, .null, .null, .null, .null, .null])) :: W3) T3 26 1049 _
  refine n_put  (h0 := h0) (fs := [.ref (ad1 0), .ref (ad2 0), .null, .null, .null, .null, .null, .null, .null]) (v := .ref (ad3 0)) fl_RX10_26 rfl rfl rfl rfl (Nat.le_of_ble_eq_true rfl) d_T_new_34 ?_
  show N D m_T_new (nrm 4 58 2116) 58 2116 37 [some (.ref h0), none] [] ((h0, .inr (10, [.ref (ad1 0), .ref (ad2 0), .ref (ad3 0), .null, .null, .null, .null, .null, .null])) :: W3) T3 26 1049 _
  refine n_aload_n (x := h0)  d_T_new_37 rfl ?_
  refine n_new  (ci := 6) (fs := [.null, .null, .null, .int 0, .int 0, .int 0, .int 0, .int 0]) uw_6 tyX6_ok w_270 w_271 w_81 rfl df_6 (Nat.le_of_ble_eq_true rfl) (Nat.le_of_ble_eq_true rfl) d_T_new_38 (fun q4 => ?_)
  show N D m_T_new (nrm 4 58 2116) 58 2116 41 [some (.ref h0), none] [.ref q4, .ref h0] (((h0, .inr (10, [.ref (ad1 0), .ref (ad2 0), .ref (ad3 0), .null, .null, .null, .null, .null, .null])) :: W3) ++ [(q4, .inr (6, [.null, .null, .null, .int 0, .int 0, .int 0, .int 0, .int 0]))]) T3 27 1057 _
  refine n_dup (v := .ref q4) d_T_new_41 rfl ?_
  refine n_init (q := q4) (st := [.ref q4, .ref h0]) k_Pa_new w_274 rfl ⟨"TwoAgree", List.mem_of_getElem? (i := 5) (by decide +kernel)⟩ w_81 w_273 rfl (by decide +kernel) (Nat.le_of_ble_eq_true rfl) (Nat.le_of_ble_eq_true rfl) (Nat.le_of_ble_eq_true rfl) (Nat.le_of_ble_eq_true rfl) (Nat.le_of_ble_eq_true rfl) (Nat.le_of_ble_eq_true rfl) d_T_new_42 (fun w4 t4 hq => ?_)
  obtain ⟨ad4, ca4, e4, hw4, ht4⟩ := hq
  subst e4
  obtain ⟨W4, hW4⟩ : ∃ W : va_W, W = W3 ++ w4 := ⟨_, rfl⟩
  obtain ⟨T4, hT4⟩ : ∃ T : nT, T = T3 ++ t4 := ⟨_, rfl⟩
  rw [show ((h0, .inr (10, [.ref (ad1 0), .ref (ad2 0), .ref (ad3 0), .null, .null, .null, .null, .null, .null])) :: W3) ++ w4 = (h0, .inr (10, [.ref (ad1 0), .ref (ad2 0), .ref (ad3 0), .null, .null, .null, .null, .null, .null])) :: W4 from by rw [hW4]; rfl, ← hT4]
  show N D m_T_new (nrm 4 58 2116) 58 2116 45 [some (.ref h0), none] [.ref (ad4 0), .ref h0] ((h0, .inr (10, [.ref (ad1 0), .ref (ad2 0), .ref (ad3 0), .null, .null, .null, .null, .null, .null])) :: W4) T4 30 1433 _
  refine n_put  (h0 := h0) (fs := [.ref (ad1 0), .ref (ad2 0), .ref (ad3 0), .null, .null, .null, .null, .null, .null]) (v := .ref (ad4 0)) fl_RX10_33 rfl rfl rfl rfl (Nat.le_of_ble_eq_true rfl) d_T_new_45 ?_
  show N D m_T_new (nrm 4 58 2116) 58 2116 48 [some (.ref h0), none] [] ((h0, .inr (10, [.ref (ad1 0), .ref (ad2 0), .ref (ad3 0), .ref (ad4 0), .null, .null, .null, .null, .null])) :: W4) T4 30 1433 _
  refine n_aload_n (x := h0)  d_T_new_48 rfl ?_
  refine n_new  (ci := 1) (fs := [.null, .null, .null, .null, .int 0, .int 0]) uw_1 tyX1_ok w_302 w_303 w_82 rfl df_1 (Nat.le_of_ble_eq_true rfl) (Nat.le_of_ble_eq_true rfl) d_T_new_49 (fun q5 => ?_)
  show N D m_T_new (nrm 4 58 2116) 58 2116 52 [some (.ref h0), none] [.ref q5, .ref h0] (((h0, .inr (10, [.ref (ad1 0), .ref (ad2 0), .ref (ad3 0), .ref (ad4 0), .null, .null, .null, .null, .null])) :: W4) ++ [(q5, .inr (1, [.null, .null, .null, .null, .int 0, .int 0]))]) T4 31 1439 _
  refine n_dup (v := .ref q5) d_T_new_52 rfl ?_
  refine n_init (q := q5) (st := [.ref q5, .ref h0]) k_Ch_new w_306 rfl ⟨"TwoAgree", List.mem_of_getElem? (i := 6) (by decide +kernel)⟩ w_82 w_305 rfl (by decide +kernel) (Nat.le_of_ble_eq_true rfl) (Nat.le_of_ble_eq_true rfl) (Nat.le_of_ble_eq_true rfl) (Nat.le_of_ble_eq_true rfl) (Nat.le_of_ble_eq_true rfl) (Nat.le_of_ble_eq_true rfl) d_T_new_53 (fun w5 t5 hq => ?_)
  obtain ⟨ad5, ca5, e5, hw5, ht5⟩ := hq
  subst e5
  obtain ⟨W5, hW5⟩ : ∃ W : va_W, W = W4 ++ w5 := ⟨_, rfl⟩
  obtain ⟨T5, hT5⟩ : ∃ T : nT, T = T4 ++ t5 := ⟨_, rfl⟩
  rw [show ((h0, .inr (10, [.ref (ad1 0), .ref (ad2 0), .ref (ad3 0), .ref (ad4 0), .null, .null, .null, .null, .null])) :: W4) ++ w5 = (h0, .inr (10, [.ref (ad1 0), .ref (ad2 0), .ref (ad3 0), .ref (ad4 0), .null, .null, .null, .null, .null])) :: W5 from by rw [hW5]; rfl, ← hT5]
  show N D m_T_new (nrm 4 58 2116) 58 2116 56 [some (.ref h0), none] [.ref (ad5 0), .ref h0] ((h0, .inr (10, [.ref (ad1 0), .ref (ad2 0), .ref (ad3 0), .ref (ad4 0), .null, .null, .null, .null, .null])) :: W5) T5 35 1599 _
  refine n_put  (h0 := h0) (fs := [.ref (ad1 0), .ref (ad2 0), .ref (ad3 0), .ref (ad4 0), .null, .null, .null, .null, .null]) (v := .ref (ad5 0)) fl_RX10_40 rfl rfl rfl rfl (Nat.le_of_ble_eq_true rfl) d_T_new_56 ?_
  show N D m_T_new (nrm 4 58 2116) 58 2116 59 [some (.ref h0), none] [] ((h0, .inr (10, [.ref (ad1 0), .ref (ad2 0), .ref (ad3 0), .ref (ad4 0), .ref (ad5 0), .null, .null, .null, .null])) :: W5) T5 35 1599 _
  refine n_aload_n (x := h0)  d_T_new_59 rfl ?_
  refine n_new  (ci := 5) (fs := [.null, .int 0, .int 0]) uw_5 tyX5_ok w_329 w_330 w_83 rfl df_5 (Nat.le_of_ble_eq_true rfl) (Nat.le_of_ble_eq_true rfl) d_T_new_60 (fun q6 => ?_)
  show N D m_T_new (nrm 4 58 2116) 58 2116 63 [some (.ref h0), none] [.ref q6, .ref h0] (((h0, .inr (10, [.ref (ad1 0), .ref (ad2 0), .ref (ad3 0), .ref (ad4 0), .ref (ad5 0), .null, .null, .null, .null])) :: W5) ++ [(q6, .inr (5, [.null, .int 0, .int 0]))]) T5 36 1602 _
  refine n_dup (v := .ref q6) d_T_new_63 rfl ?_
  refine n_init (q := q6) (st := [.ref q6, .ref h0]) k_Le_new w_333 rfl ⟨"TwoAgree", List.mem_of_getElem? (i := 7) (by decide +kernel)⟩ w_83 w_332 rfl (by decide +kernel) (Nat.le_of_ble_eq_true rfl) (Nat.le_of_ble_eq_true rfl) (Nat.le_of_ble_eq_true rfl) (Nat.le_of_ble_eq_true rfl) (Nat.le_of_ble_eq_true rfl) (Nat.le_of_ble_eq_true rfl) d_T_new_64 (fun w6 t6 hq => ?_)
  obtain ⟨ad6, ca6, e6, hw6, ht6⟩ := hq
  subst e6
  obtain ⟨W6, hW6⟩ : ∃ W : va_W, W = W5 ++ w6 := ⟨_, rfl⟩
  obtain ⟨T6, hT6⟩ : ∃ T : nT, T = T5 ++ t6 := ⟨_, rfl⟩
  rw [show ((h0, .inr (10, [.ref (ad1 0), .ref (ad2 0), .ref (ad3 0), .ref (ad4 0), .ref (ad5 0), .null, .null, .null, .null])) :: W5) ++ w6 = (h0, .inr (10, [.ref (ad1 0), .ref (ad2 0), .ref (ad3 0), .ref (ad4 0), .ref (ad5 0), .null, .null, .null, .null])) :: W6 from by rw [hW6]; rfl, ← hT6]
  show N D m_T_new (nrm 4 58 2116) 58 2116 67 [some (.ref h0), none] [.ref (ad6 0), .ref h0] ((h0, .inr (10, [.ref (ad1 0), .ref (ad2 0), .ref (ad3 0), .ref (ad4 0), .ref (ad5 0), .null, .null, .null, .null])) :: W6) T6 37 1607 _
  refine n_put  (h0 := h0) (fs := [.ref (ad1 0), .ref (ad2 0), .ref (ad3 0), .ref (ad4 0), .ref (ad5 0), .null, .null, .null, .null]) (v := .ref (ad6 0)) fl_RX10_47 rfl rfl rfl rfl (Nat.le_of_ble_eq_true rfl) d_T_new_67 ?_
  show N D m_T_new (nrm 4 58 2116) 58 2116 70 [some (.ref h0), none] [] ((h0, .inr (10, [.ref (ad1 0), .ref (ad2 0), .ref (ad3 0), .ref (ad4 0), .ref (ad5 0), .ref (ad6 0), .null, .null, .null])) :: W6) T6 37 1607 _
  refine n_aload_n (x := h0)  d_T_new_70 rfl ?_
  refine n_new  (ci := 7) (fs := [.null, .null, .null, .int 0, .int 0, .int 0]) uw_7 tyX7_ok w_347 w_348 w_84 rfl df_7 (Nat.le_of_ble_eq_true rfl) (Nat.le_of_ble_eq_true rfl) d_T_new_71 (fun q7 => ?_)
  show N D m_T_new (nrm 4 58 2116) 58 2116 74 [some (.ref h0), none] [.ref q7, .ref h0] (((h0, .inr (10, [.ref (ad1 0), .ref (ad2 0), .ref (ad3 0), .ref (ad4 0), .ref (ad5 0), .ref (ad6 0), .null, .null, .null])) :: W6) ++ [(q7, .inr (7, [.null, .null, .null, .int 0, .int 0, .int 0]))]) T6 38 1613 _
  refine n_dup (v := .ref q7) d_T_new_74 rfl ?_
  refine n_init (q := q7) (st := [.ref q7, .ref h0]) k_Pi_new w_351 rfl ⟨"TwoAgree", List.mem_of_getElem? (i := 8) (by decide +kernel)⟩ w_84 w_350 rfl (by decide +kernel) (Nat.le_of_ble_eq_true rfl) (Nat.le_of_ble_eq_true rfl) (Nat.le_of_ble_eq_true rfl) (Nat.le_of_ble_eq_true rfl) (Nat.le_of_ble_eq_true rfl) (Nat.le_of_ble_eq_true rfl) d_T_new_75 (fun w7 t7 hq => ?_)
  obtain ⟨ad7, ca7, e7, hw7, ht7⟩ := hq
  subst e7
  obtain ⟨W7, hW7⟩ : ∃ W : va_W, W = W6 ++ w7 := ⟨_, rfl⟩
  obtain ⟨T7, hT7⟩ : ∃ T : nT, T = T6 ++ t7 := ⟨_, rfl⟩
  rw [show ((h0, .inr (10, [.ref (ad1 0), .ref (ad2 0), .ref (ad3 0), .ref (ad4 0), .ref (ad5 0), .ref (ad6 0), .null, .null, .null])) :: W6) ++ w7 = (h0, .inr (10, [.ref (ad1 0), .ref (ad2 0), .ref (ad3 0), .ref (ad4 0), .ref (ad5 0), .ref (ad6 0), .null, .null, .null])) :: W7 from by rw [hW7]; rfl, ← hT7]
  show N D m_T_new (nrm 4 58 2116) 58 2116 78 [some (.ref h0), none] [.ref (ad7 0), .ref h0] ((h0, .inr (10, [.ref (ad1 0), .ref (ad2 0), .ref (ad3 0), .ref (ad4 0), .ref (ad5 0), .ref (ad6 0), .null, .null, .null])) :: W7) T7 42 1641 _
  refine n_put  (h0 := h0) (fs := [.ref (ad1 0), .ref (ad2 0), .ref (ad3 0), .ref (ad4 0), .ref (ad5 0), .ref (ad6 0), .null, .null, .null]) (v := .ref (ad7 0)) fl_RX10_54 rfl rfl rfl rfl (Nat.le_of_ble_eq_true rfl) d_T_new_78 ?_
  show N D m_T_new (nrm 4 58 2116) 58 2116 81 [some (.ref h0), none] [] ((h0, .inr (10, [.ref (ad1 0), .ref (ad2 0), .ref (ad3 0), .ref (ad4 0), .ref (ad5 0), .ref (ad6 0), .ref (ad7 0), .null, .null])) :: W7) T7 42 1641 _
  refine n_aload_n (x := h0)  d_T_new_81 rfl ?_
  refine n_new  (ci := 9) (fs := [.null, .null, .int 0, .int 0, .int 0]) uw_9 tyX9_ok w_375 w_376 w_85 rfl df_9 (Nat.le_of_ble_eq_true rfl) (Nat.le_of_ble_eq_true rfl) d_T_new_82 (fun q8 => ?_)
  show N D m_T_new (nrm 4 58 2116) 58 2116 85 [some (.ref h0), none] [.ref q8, .ref h0] (((h0, .inr (10, [.ref (ad1 0), .ref (ad2 0), .ref (ad3 0), .ref (ad4 0), .ref (ad5 0), .ref (ad6 0), .ref (ad7 0), .null, .null])) :: W7) ++ [(q8, .inr (9, [.null, .null, .int 0, .int 0, .int 0]))]) T7 43 1646 _
  refine n_dup (v := .ref q8) d_T_new_85 rfl ?_
  refine n_init (q := q8) (st := [.ref q8, .ref h0]) k_Wo_new w_379 rfl ⟨"TwoAgree", List.mem_of_getElem? (i := 10) (by decide +kernel)⟩ w_85 w_378 rfl (by decide +kernel) (Nat.le_of_ble_eq_true rfl) (Nat.le_of_ble_eq_true rfl) (Nat.le_of_ble_eq_true rfl) (Nat.le_of_ble_eq_true rfl) (Nat.le_of_ble_eq_true rfl) (Nat.le_of_ble_eq_true rfl) d_T_new_86 (fun w8 t8 hq => ?_)
  obtain ⟨ad8, ca8, e8, hw8, ht8⟩ := hq
  subst e8
  obtain ⟨W8, hW8⟩ : ∃ W : va_W, W = W7 ++ w8 := ⟨_, rfl⟩
  obtain ⟨T8, hT8⟩ : ∃ T : nT, T = T7 ++ t8 := ⟨_, rfl⟩
  rw [show ((h0, .inr (10, [.ref (ad1 0), .ref (ad2 0), .ref (ad3 0), .ref (ad4 0), .ref (ad5 0), .ref (ad6 0), .ref (ad7 0), .null, .null])) :: W7) ++ w8 = (h0, .inr (10, [.ref (ad1 0), .ref (ad2 0), .ref (ad3 0), .ref (ad4 0), .ref (ad5 0), .ref (ad6 0), .ref (ad7 0), .null, .null])) :: W8 from by rw [hW8]; rfl, ← hT8]
  show N D m_T_new (nrm 4 58 2116) 58 2116 89 [some (.ref h0), none] [.ref (ad8 0), .ref h0] ((h0, .inr (10, [.ref (ad1 0), .ref (ad2 0), .ref (ad3 0), .ref (ad4 0), .ref (ad5 0), .ref (ad6 0), .ref (ad7 0), .null, .null])) :: W8) T8 45 1720 _
  refine n_put  (h0 := h0) (fs := [.ref (ad1 0), .ref (ad2 0), .ref (ad3 0), .ref (ad4 0), .ref (ad5 0), .ref (ad6 0), .ref (ad7 0), .null, .null]) (v := .ref (ad8 0)) fl_RX10_61 rfl rfl rfl rfl (Nat.le_of_ble_eq_true rfl) d_T_new_89 ?_
  show N D m_T_new (nrm 4 58 2116) 58 2116 92 [some (.ref h0), none] [] ((h0, .inr (10, [.ref (ad1 0), .ref (ad2 0), .ref (ad3 0), .ref (ad4 0), .ref (ad5 0), .ref (ad6 0), .ref (ad7 0), .ref (ad8 0), .null])) :: W8) T8 45 1720 _
  refine n_aload_n (x := h0)  d_T_new_92 rfl ?_
  refine n_const  (v := (6 : Int32)) d_T_new_93 (Or.inr (Or.inl ⟨_, rfl, by decide, rfl⟩)) ?_
  obtain ⟨Wp, hWp⟩ : ∃ Wp : va_W, Wp = W8 := ⟨_, rfl⟩
  obtain ⟨Tp, hTp⟩ : ∃ Tp : nT, Tp = T8 := ⟨_, rfl⟩
  rw [← hWp, ← hTp]
  have hlW : Wp.length = 45 := by rw [hWp, hW8, hW7, hW6, hW5, hW4, hW3, hW2, hW1, hw1, hw2, hw3, hw4, hw5, hw6, hw7, hw8]; rfl
  have hlT : Tp.length = 34 := by rw [hTp, hT8, hT7, hT6, hT5, hT4, hT3, hT2, hT1, ht1, ht2, ht3, ht4, ht5, ht6, ht7, ht8]; rfl
  refine n_newq  (n := 6) (N' := 6) w_401 d_T_new_95 (by decide) (by decide) (by decide) (Nat.le_of_ble_eq_true rfl) (Nat.le_of_ble_eq_true rfl) (fun q9 c9 => ?_)
  show N D m_T_new (nrm 4 58 2116) 58 2116 98 [some (.ref h0), none] [.ref q9, .ref h0] ((h0, .inr (10, [.ref (ad1 0), .ref (ad2 0), .ref (ad3 0), .ref (ad4 0), .ref (ad5 0), .ref (ad6 0), .ref (ad7 0), .ref (ad8 0), .null])) :: (Wp ++ ((q9, .inl (c9, 6, .inr (.inr (.inr (.inr (fun i => ([] : List Nat)[i]?)))))) :: []))) (Tp ++ ((c9, .object "TwoAgree$Shelf") :: [])) 46 1726 _
  refine n_put  (h0 := h0) (fs := [.ref (ad1 0), .ref (ad2 0), .ref (ad3 0), .ref (ad4 0), .ref (ad5 0), .ref (ad6 0), .ref (ad7 0), .ref (ad8 0), .null]) (v := .ref q9) fl_RX10_67 rfl rfl rfl rfl (Nat.le_of_ble_eq_true rfl) d_T_new_98 ?_
  show N D m_T_new (nrm 4 58 2116) 58 2116 101 [some (.ref h0), none] [] ((h0, .inr (10, [.ref (ad1 0), .ref (ad2 0), .ref (ad3 0), .ref (ad4 0), .ref (ad5 0), .ref (ad6 0), .ref (ad7 0), .ref (ad8 0), .ref q9])) :: (Wp ++ ((q9, .inl (c9, 6, .inr (.inr (.inr (.inr (fun i => ([] : List Nat)[i]?)))))) :: []))) (Tp ++ ((c9, .object "TwoAgree$Shelf") :: [])) 46 1726 _
  refine n_const  (v := (0 : Int32)) d_T_new_101 (Or.inl ⟨_, rfl, by decide, rfl⟩) ?_
  refine n_istore_n  (x := (0 : Int32)) (L2 := [some (.ref h0), some (.int (0 : Int32))]) d_T_new_102 (Nat.le_of_ble_eq_true rfl) rfl ?_
  refine n_iload_n (x := (0 : Int32))  d_T_new_103 rfl ?_
  refine n_aload_n (x := h0)  d_T_new_104 rfl ?_
  refine n_getr  (h0 := h0) (fs := [.ref (ad1 0), .ref (ad2 0), .ref (ad3 0), .ref (ad4 0), .ref (ad5 0), .ref (ad6 0), .ref (ad7 0), .ref (ad8 0), .ref q9]) (j := q9) fl_RX10_67 rfl rfl d_T_new_105 ?_
  refine n_alen (v := 6) 46 34 (a := q9) (gpos hlW) (gposT hlT) rfl d_T_new_108 ?_
  refine n_icmp_ge  (x := (0 : Int32)) (y := (6 : Int32)) d_T_new_109 rfl (fun h => absurd h (by decide)) (fun _ => ?_)
  refine n_aload_n (x := h0)  d_T_new_112 rfl ?_
  refine n_getr  (h0 := h0) (fs := [.ref (ad1 0), .ref (ad2 0), .ref (ad3 0), .ref (ad4 0), .ref (ad5 0), .ref (ad6 0), .ref (ad7 0), .ref (ad8 0), .ref q9]) (j := q9) fl_RX10_67 rfl rfl d_T_new_113 ?_
  refine n_iload_n (x := (0 : Int32))  d_T_new_116 rfl ?_
  refine n_new  (ci := 8) (fs := [.null, .int 0, .int 0, .int 0, .int 0]) uw_8 tyX8_ok w_401 w_403 w_86 rfl df_8 (Nat.le_of_ble_eq_true rfl) (Nat.le_of_ble_eq_true rfl) d_T_new_117 (fun q10 => ?_)
  show N D m_T_new (nrm 4 58 2116) 58 2116 120 [some (.ref h0), some (.int (0 : Int32))] [.ref q10, .int (0 : Int32), .ref q9] (((h0, .inr (10, [.ref (ad1 0), .ref (ad2 0), .ref (ad3 0), .ref (ad4 0), .ref (ad5 0), .ref (ad6 0), .ref (ad7 0), .ref (ad8 0), .ref q9])) :: (Wp ++ ((q9, .inl (c9, 6, .inr (.inr (.inr (.inr (fun i => ([] : List Nat)[i]?)))))) :: []))) ++ [(q10, .inr (8, [.null, .int 0, .int 0, .int 0, .int 0]))]) (Tp ++ ((c9, .object "TwoAgree$Shelf") :: [])) 47 1731 _
  refine n_dup (v := .ref q10) d_T_new_120 rfl ?_
  refine n_init (q := q10) (st := [.ref q10, .int (0 : Int32), .ref q9]) k_Sh_new w_406 rfl ⟨"TwoAgree", List.mem_of_getElem? (i := 11) (by decide +kernel)⟩ w_86 w_405 rfl (by decide +kernel) (Nat.le_of_ble_eq_true rfl) (Nat.le_of_ble_eq_true rfl) (Nat.le_of_ble_eq_true rfl) (Nat.le_of_ble_eq_true rfl) (Nat.le_of_ble_eq_true rfl) (Nat.le_of_ble_eq_true rfl) d_T_new_121 (fun w10 t10 hq => ?_)
  obtain ⟨ad10, ca10, e10, rfl, rfl⟩ := hq
  subst e10
  rw [gasc, gasc2]
  show N D m_T_new (nrm 4 58 2116) 58 2116 124 [some (.ref h0), some (.int (0 : Int32))] [.ref (ad10 0), .int (0 : Int32), .ref q9] ((h0, .inr (10, [.ref (ad1 0), .ref (ad2 0), .ref (ad3 0), .ref (ad4 0), .ref (ad5 0), .ref (ad6 0), .ref (ad7 0), .ref (ad8 0), .ref q9])) :: (Wp ++ ((q9, .inl (c9, 6, .inr (.inr (.inr (.inr (fun i => ([] : List Nat)[i]?)))))) :: [(ad10 0, .inr (8, [.ref (ad10 1), .int 0, .int 0, .int 0, .int 0])), (ad10 1, .inl (ca10 1, 60, .inr (.inl (fun _ => 0))))]))) (Tp ++ ((c9, .object "TwoAgree$Shelf") :: [(ca10 1, .long)])) 48 1791 _
  refine n_astq2 (i := (0 : Int32)) (v := (ad10 0)) (a := q9) (n := 6) (vs := [.ref (ad10 1), .int 0, .int 0, .int 0, .int 0]) 46 34 47 8 (g := (fun i => ([(ad10 0)] : List Nat)[i]?)) (gpos hlW) (gposT hlT) (gpos3 (j := 0) hlW rfl) rfl (gix_in (by decide)) d_T_new_124 (va_up_list [] (ad10 0)) ?_
  rw [gset hlW]
  show N D m_T_new (nrm 4 58 2116) 58 2116 125 [some (.ref h0), some (.int (0 : Int32))] [] ((h0, .inr (10, [.ref (ad1 0), .ref (ad2 0), .ref (ad3 0), .ref (ad4 0), .ref (ad5 0), .ref (ad6 0), .ref (ad7 0), .ref (ad8 0), .ref q9])) :: (Wp ++ ((q9, .inl (c9, 6, .inr (.inr (.inr (.inr (fun i => ([(ad10 0)] : List Nat)[i]?)))))) :: [(ad10 0, .inr (8, [.ref (ad10 1), .int 0, .int 0, .int 0, .int 0])), (ad10 1, .inl (ca10 1, 60, .inr (.inl (fun _ => 0))))]))) (Tp ++ ((c9, .object "TwoAgree$Shelf") :: [(ca10 1, .long)])) 48 1791 _
  refine n_iinc  (x := (0 : Int32)) (v := (1 : Int32)) (L2 := [some (.ref h0), some (.int (1 : Int32))]) d_T_new_125 rfl (by decide) (Nat.le_of_ble_eq_true rfl) rfl ?_
  refine n_goto  d_T_new_128 rfl ?_
  refine n_iload_n (x := (1 : Int32))  d_T_new_103 rfl ?_
  refine n_aload_n (x := h0)  d_T_new_104 rfl ?_
  refine n_getr  (h0 := h0) (fs := [.ref (ad1 0), .ref (ad2 0), .ref (ad3 0), .ref (ad4 0), .ref (ad5 0), .ref (ad6 0), .ref (ad7 0), .ref (ad8 0), .ref q9]) (j := q9) fl_RX10_67 rfl rfl d_T_new_105 ?_
  refine n_alen (v := 6) 46 34 (a := q9) (gpos hlW) (gposT hlT) rfl d_T_new_108 ?_
  refine n_icmp_ge  (x := (1 : Int32)) (y := (6 : Int32)) d_T_new_109 rfl (fun h => absurd h (by decide)) (fun _ => ?_)
  refine n_aload_n (x := h0)  d_T_new_112 rfl ?_
  refine n_getr  (h0 := h0) (fs := [.ref (ad1 0), .ref (ad2 0), .ref (ad3 0), .ref (ad4 0), .ref (ad5 0), .ref (ad6 0), .ref (ad7 0), .ref (ad8 0), .ref q9]) (j := q9) fl_RX10_67 rfl rfl d_T_new_113 ?_
  refine n_iload_n (x := (1 : Int32))  d_T_new_116 rfl ?_
  refine n_new  (ci := 8) (fs := [.null, .int 0, .int 0, .int 0, .int 0]) uw_8 tyX8_ok w_401 w_403 w_86 rfl df_8 (Nat.le_of_ble_eq_true rfl) (Nat.le_of_ble_eq_true rfl) d_T_new_117 (fun q11 => ?_)
  show N D m_T_new (nrm 4 58 2116) 58 2116 120 [some (.ref h0), some (.int (1 : Int32))] [.ref q11, .int (1 : Int32), .ref q9] (((h0, .inr (10, [.ref (ad1 0), .ref (ad2 0), .ref (ad3 0), .ref (ad4 0), .ref (ad5 0), .ref (ad6 0), .ref (ad7 0), .ref (ad8 0), .ref q9])) :: (Wp ++ ((q9, .inl (c9, 6, .inr (.inr (.inr (.inr (fun i => ([(ad10 0)] : List Nat)[i]?)))))) :: [(ad10 0, .inr (8, [.ref (ad10 1), .int 0, .int 0, .int 0, .int 0])), (ad10 1, .inl (ca10 1, 60, .inr (.inl (fun _ => 0))))]))) ++ [(q11, .inr (8, [.null, .int 0, .int 0, .int 0, .int 0]))]) (Tp ++ ((c9, .object "TwoAgree$Shelf") :: [(ca10 1, .long)])) 49 1796 _
  refine n_dup (v := .ref q11) d_T_new_120 rfl ?_
  refine n_init (q := q11) (st := [.ref q11, .int (1 : Int32), .ref q9]) k_Sh_new w_406 rfl ⟨"TwoAgree", List.mem_of_getElem? (i := 11) (by decide +kernel)⟩ w_86 w_405 rfl (by decide +kernel) (Nat.le_of_ble_eq_true rfl) (Nat.le_of_ble_eq_true rfl) (Nat.le_of_ble_eq_true rfl) (Nat.le_of_ble_eq_true rfl) (Nat.le_of_ble_eq_true rfl) (Nat.le_of_ble_eq_true rfl) d_T_new_121 (fun w11 t11 hq => ?_)
  obtain ⟨ad11, ca11, e11, rfl, rfl⟩ := hq
  subst e11
  rw [gasc, gasc2]
  show N D m_T_new (nrm 4 58 2116) 58 2116 124 [some (.ref h0), some (.int (1 : Int32))] [.ref (ad11 0), .int (1 : Int32), .ref q9] ((h0, .inr (10, [.ref (ad1 0), .ref (ad2 0), .ref (ad3 0), .ref (ad4 0), .ref (ad5 0), .ref (ad6 0), .ref (ad7 0), .ref (ad8 0), .ref q9])) :: (Wp ++ ((q9, .inl (c9, 6, .inr (.inr (.inr (.inr (fun i => ([(ad10 0)] : List Nat)[i]?)))))) :: [(ad10 0, .inr (8, [.ref (ad10 1), .int 0, .int 0, .int 0, .int 0])), (ad10 1, .inl (ca10 1, 60, .inr (.inl (fun _ => 0)))), (ad11 0, .inr (8, [.ref (ad11 1), .int 0, .int 0, .int 0, .int 0])), (ad11 1, .inl (ca11 1, 60, .inr (.inl (fun _ => 0))))]))) (Tp ++ ((c9, .object "TwoAgree$Shelf") :: [(ca10 1, .long), (ca11 1, .long)])) 50 1856 _
  refine n_astq2 (i := (1 : Int32)) (v := (ad11 0)) (a := q9) (n := 6) (vs := [.ref (ad11 1), .int 0, .int 0, .int 0, .int 0]) 46 34 49 8 (g := (fun i => ([(ad10 0), (ad11 0)] : List Nat)[i]?)) (gpos hlW) (gposT hlT) (gpos3 (j := 2) hlW rfl) rfl (gix_in (by decide)) d_T_new_124 (va_up_list [(ad10 0)] (ad11 0)) ?_
  rw [gset hlW]
  show N D m_T_new (nrm 4 58 2116) 58 2116 125 [some (.ref h0), some (.int (1 : Int32))] [] ((h0, .inr (10, [.ref (ad1 0), .ref (ad2 0), .ref (ad3 0), .ref (ad4 0), .ref (ad5 0), .ref (ad6 0), .ref (ad7 0), .ref (ad8 0), .ref q9])) :: (Wp ++ ((q9, .inl (c9, 6, .inr (.inr (.inr (.inr (fun i => ([(ad10 0), (ad11 0)] : List Nat)[i]?)))))) :: [(ad10 0, .inr (8, [.ref (ad10 1), .int 0, .int 0, .int 0, .int 0])), (ad10 1, .inl (ca10 1, 60, .inr (.inl (fun _ => 0)))), (ad11 0, .inr (8, [.ref (ad11 1), .int 0, .int 0, .int 0, .int 0])), (ad11 1, .inl (ca11 1, 60, .inr (.inl (fun _ => 0))))]))) (Tp ++ ((c9, .object "TwoAgree$Shelf") :: [(ca10 1, .long), (ca11 1, .long)])) 50 1856 _
  refine n_iinc  (x := (1 : Int32)) (v := (2 : Int32)) (L2 := [some (.ref h0), some (.int (2 : Int32))]) d_T_new_125 rfl (by decide) (Nat.le_of_ble_eq_true rfl) rfl ?_
  refine n_goto  d_T_new_128 rfl ?_
  refine n_iload_n (x := (2 : Int32))  d_T_new_103 rfl ?_
  refine n_aload_n (x := h0)  d_T_new_104 rfl ?_
  refine n_getr  (h0 := h0) (fs := [.ref (ad1 0), .ref (ad2 0), .ref (ad3 0), .ref (ad4 0), .ref (ad5 0), .ref (ad6 0), .ref (ad7 0), .ref (ad8 0), .ref q9]) (j := q9) fl_RX10_67 rfl rfl d_T_new_105 ?_
  refine n_alen (v := 6) 46 34 (a := q9) (gpos hlW) (gposT hlT) rfl d_T_new_108 ?_
  refine n_icmp_ge  (x := (2 : Int32)) (y := (6 : Int32)) d_T_new_109 rfl (fun h => absurd h (by decide)) (fun _ => ?_)
  refine n_aload_n (x := h0)  d_T_new_112 rfl ?_
  refine n_getr  (h0 := h0) (fs := [.ref (ad1 0), .ref (ad2 0), .ref (ad3 0), .ref (ad4 0), .ref (ad5 0), .ref (ad6 0), .ref (ad7 0), .ref (ad8 0), .ref q9]) (j := q9) fl_RX10_67 rfl rfl d_T_new_113 ?_
  refine n_iload_n (x := (2 : Int32))  d_T_new_116 rfl ?_
  refine n_new  (ci := 8) (fs := [.null, .int 0, .int 0, .int 0, .int 0]) uw_8 tyX8_ok w_401 w_403 w_86 rfl df_8 (Nat.le_of_ble_eq_true rfl) (Nat.le_of_ble_eq_true rfl) d_T_new_117 (fun q12 => ?_)
  show N D m_T_new (nrm 4 58 2116) 58 2116 120 [some (.ref h0), some (.int (2 : Int32))] [.ref q12, .int (2 : Int32), .ref q9] (((h0, .inr (10, [.ref (ad1 0), .ref (ad2 0), .ref (ad3 0), .ref (ad4 0), .ref (ad5 0), .ref (ad6 0), .ref (ad7 0), .ref (ad8 0), .ref q9])) :: (Wp ++ ((q9, .inl (c9, 6, .inr (.inr (.inr (.inr (fun i => ([(ad10 0), (ad11 0)] : List Nat)[i]?)))))) :: [(ad10 0, .inr (8, [.ref (ad10 1), .int 0, .int 0, .int 0, .int 0])), (ad10 1, .inl (ca10 1, 60, .inr (.inl (fun _ => 0)))), (ad11 0, .inr (8, [.ref (ad11 1), .int 0, .int 0, .int 0, .int 0])), (ad11 1, .inl (ca11 1, 60, .inr (.inl (fun _ => 0))))]))) ++ [(q12, .inr (8, [.null, .int 0, .int 0, .int 0, .int 0]))]) (Tp ++ ((c9, .object "TwoAgree$Shelf") :: [(ca10 1, .long), (ca11 1, .long)])) 51 1861 _
  refine n_dup (v := .ref q12) d_T_new_120 rfl ?_
  refine n_init (q := q12) (st := [.ref q12, .int (2 : Int32), .ref q9]) k_Sh_new w_406 rfl ⟨"TwoAgree", List.mem_of_getElem? (i := 11) (by decide +kernel)⟩ w_86 w_405 rfl (by decide +kernel) (Nat.le_of_ble_eq_true rfl) (Nat.le_of_ble_eq_true rfl) (Nat.le_of_ble_eq_true rfl) (Nat.le_of_ble_eq_true rfl) (Nat.le_of_ble_eq_true rfl) (Nat.le_of_ble_eq_true rfl) d_T_new_121 (fun w12 t12 hq => ?_)
  obtain ⟨ad12, ca12, e12, rfl, rfl⟩ := hq
  subst e12
  rw [gasc, gasc2]
  show N D m_T_new (nrm 4 58 2116) 58 2116 124 [some (.ref h0), some (.int (2 : Int32))] [.ref (ad12 0), .int (2 : Int32), .ref q9] ((h0, .inr (10, [.ref (ad1 0), .ref (ad2 0), .ref (ad3 0), .ref (ad4 0), .ref (ad5 0), .ref (ad6 0), .ref (ad7 0), .ref (ad8 0), .ref q9])) :: (Wp ++ ((q9, .inl (c9, 6, .inr (.inr (.inr (.inr (fun i => ([(ad10 0), (ad11 0)] : List Nat)[i]?)))))) :: [(ad10 0, .inr (8, [.ref (ad10 1), .int 0, .int 0, .int 0, .int 0])), (ad10 1, .inl (ca10 1, 60, .inr (.inl (fun _ => 0)))), (ad11 0, .inr (8, [.ref (ad11 1), .int 0, .int 0, .int 0, .int 0])), (ad11 1, .inl (ca11 1, 60, .inr (.inl (fun _ => 0)))), (ad12 0, .inr (8, [.ref (ad12 1), .int 0, .int 0, .int 0, .int 0])), (ad12 1, .inl (ca12 1, 60, .inr (.inl (fun _ => 0))))]))) (Tp ++ ((c9, .object "TwoAgree$Shelf") :: [(ca10 1, .long), (ca11 1, .long), (ca12 1, .long)])) 52 1921 _
  refine n_astq2 (i := (2 : Int32)) (v := (ad12 0)) (a := q9) (n := 6) (vs := [.ref (ad12 1), .int 0, .int 0, .int 0, .int 0]) 46 34 51 8 (g := (fun i => ([(ad10 0), (ad11 0), (ad12 0)] : List Nat)[i]?)) (gpos hlW) (gposT hlT) (gpos3 (j := 4) hlW rfl) rfl (gix_in (by decide)) d_T_new_124 (va_up_list [(ad10 0), (ad11 0)] (ad12 0)) ?_
  rw [gset hlW]
  show N D m_T_new (nrm 4 58 2116) 58 2116 125 [some (.ref h0), some (.int (2 : Int32))] [] ((h0, .inr (10, [.ref (ad1 0), .ref (ad2 0), .ref (ad3 0), .ref (ad4 0), .ref (ad5 0), .ref (ad6 0), .ref (ad7 0), .ref (ad8 0), .ref q9])) :: (Wp ++ ((q9, .inl (c9, 6, .inr (.inr (.inr (.inr (fun i => ([(ad10 0), (ad11 0), (ad12 0)] : List Nat)[i]?)))))) :: [(ad10 0, .inr (8, [.ref (ad10 1), .int 0, .int 0, .int 0, .int 0])), (ad10 1, .inl (ca10 1, 60, .inr (.inl (fun _ => 0)))), (ad11 0, .inr (8, [.ref (ad11 1), .int 0, .int 0, .int 0, .int 0])), (ad11 1, .inl (ca11 1, 60, .inr (.inl (fun _ => 0)))), (ad12 0, .inr (8, [.ref (ad12 1), .int 0, .int 0, .int 0, .int 0])), (ad12 1, .inl (ca12 1, 60, .inr (.inl (fun _ => 0))))]))) (Tp ++ ((c9, .object "TwoAgree$Shelf") :: [(ca10 1, .long), (ca11 1, .long), (ca12 1, .long)])) 52 1921 _
  refine n_iinc  (x := (2 : Int32)) (v := (3 : Int32)) (L2 := [some (.ref h0), some (.int (3 : Int32))]) d_T_new_125 rfl (by decide) (Nat.le_of_ble_eq_true rfl) rfl ?_
  refine n_goto  d_T_new_128 rfl ?_
  refine n_iload_n (x := (3 : Int32))  d_T_new_103 rfl ?_
  refine n_aload_n (x := h0)  d_T_new_104 rfl ?_
  refine n_getr  (h0 := h0) (fs := [.ref (ad1 0), .ref (ad2 0), .ref (ad3 0), .ref (ad4 0), .ref (ad5 0), .ref (ad6 0), .ref (ad7 0), .ref (ad8 0), .ref q9]) (j := q9) fl_RX10_67 rfl rfl d_T_new_105 ?_
  refine n_alen (v := 6) 46 34 (a := q9) (gpos hlW) (gposT hlT) rfl d_T_new_108 ?_
  refine n_icmp_ge  (x := (3 : Int32)) (y := (6 : Int32)) d_T_new_109 rfl (fun h => absurd h (by decide)) (fun _ => ?_)
  refine n_aload_n (x := h0)  d_T_new_112 rfl ?_
  refine n_getr  (h0 := h0) (fs := [.ref (ad1 0), .ref (ad2 0), .ref (ad3 0), .ref (ad4 0), .ref (ad5 0), .ref (ad6 0), .ref (ad7 0), .ref (ad8 0), .ref q9]) (j := q9) fl_RX10_67 rfl rfl d_T_new_113 ?_
  refine n_iload_n (x := (3 : Int32))  d_T_new_116 rfl ?_
  refine n_new  (ci := 8) (fs := [.null, .int 0, .int 0, .int 0, .int 0]) uw_8 tyX8_ok w_401 w_403 w_86 rfl df_8 (Nat.le_of_ble_eq_true rfl) (Nat.le_of_ble_eq_true rfl) d_T_new_117 (fun q13 => ?_)
  show N D m_T_new (nrm 4 58 2116) 58 2116 120 [some (.ref h0), some (.int (3 : Int32))] [.ref q13, .int (3 : Int32), .ref q9] (((h0, .inr (10, [.ref (ad1 0), .ref (ad2 0), .ref (ad3 0), .ref (ad4 0), .ref (ad5 0), .ref (ad6 0), .ref (ad7 0), .ref (ad8 0), .ref q9])) :: (Wp ++ ((q9, .inl (c9, 6, .inr (.inr (.inr (.inr (fun i => ([(ad10 0), (ad11 0), (ad12 0)] : List Nat)[i]?)))))) :: [(ad10 0, .inr (8, [.ref (ad10 1), .int 0, .int 0, .int 0, .int 0])), (ad10 1, .inl (ca10 1, 60, .inr (.inl (fun _ => 0)))), (ad11 0, .inr (8, [.ref (ad11 1), .int 0, .int 0, .int 0, .int 0])), (ad11 1, .inl (ca11 1, 60, .inr (.inl (fun _ => 0)))), (ad12 0, .inr (8, [.ref (ad12 1), .int 0, .int 0, .int 0, .int 0])), (ad12 1, .inl (ca12 1, 60, .inr (.inl (fun _ => 0))))]))) ++ [(q13, .inr (8, [.null, .int 0, .int 0, .int 0, .int 0]))]) (Tp ++ ((c9, .object "TwoAgree$Shelf") :: [(ca10 1, .long), (ca11 1, .long), (ca12 1, .long)])) 53 1926 _
  refine n_dup (v := .ref q13) d_T_new_120 rfl ?_
  refine n_init (q := q13) (st := [.ref q13, .int (3 : Int32), .ref q9]) k_Sh_new w_406 rfl ⟨"TwoAgree", List.mem_of_getElem? (i := 11) (by decide +kernel)⟩ w_86 w_405 rfl (by decide +kernel) (Nat.le_of_ble_eq_true rfl) (Nat.le_of_ble_eq_true rfl) (Nat.le_of_ble_eq_true rfl) (Nat.le_of_ble_eq_true rfl) (Nat.le_of_ble_eq_true rfl) (Nat.le_of_ble_eq_true rfl) d_T_new_121 (fun w13 t13 hq => ?_)
  obtain ⟨ad13, ca13, e13, rfl, rfl⟩ := hq
  subst e13
  rw [gasc, gasc2]
  show N D m_T_new (nrm 4 58 2116) 58 2116 124 [some (.ref h0), some (.int (3 : Int32))] [.ref (ad13 0), .int (3 : Int32), .ref q9] ((h0, .inr (10, [.ref (ad1 0), .ref (ad2 0), .ref (ad3 0), .ref (ad4 0), .ref (ad5 0), .ref (ad6 0), .ref (ad7 0), .ref (ad8 0), .ref q9])) :: (Wp ++ ((q9, .inl (c9, 6, .inr (.inr (.inr (.inr (fun i => ([(ad10 0), (ad11 0), (ad12 0)] : List Nat)[i]?)))))) :: [(ad10 0, .inr (8, [.ref (ad10 1), .int 0, .int 0, .int 0, .int 0])), (ad10 1, .inl (ca10 1, 60, .inr (.inl (fun _ => 0)))), (ad11 0, .inr (8, [.ref (ad11 1), .int 0, .int 0, .int 0, .int 0])), (ad11 1, .inl (ca11 1, 60, .inr (.inl (fun _ => 0)))), (ad12 0, .inr (8, [.ref (ad12 1), .int 0, .int 0, .int 0, .int 0])), (ad12 1, .inl (ca12 1, 60, .inr (.inl (fun _ => 0)))), (ad13 0, .inr (8, [.ref (ad13 1), .int 0, .int 0, .int 0, .int 0])), (ad13 1, .inl (ca13 1, 60, .inr (.inl (fun _ => 0))))]))) (Tp ++ ((c9, .object "TwoAgree$Shelf") :: [(ca10 1, .long), (ca11 1, .long), (ca12 1, .long), (ca13 1, .long)])) 54 1986 _
  refine n_astq2 (i := (3 : Int32)) (v := (ad13 0)) (a := q9) (n := 6) (vs := [.ref (ad13 1), .int 0, .int 0, .int 0, .int 0]) 46 34 53 8 (g := (fun i => ([(ad10 0), (ad11 0), (ad12 0), (ad13 0)] : List Nat)[i]?)) (gpos hlW) (gposT hlT) (gpos3 (j := 6) hlW rfl) rfl (gix_in (by decide)) d_T_new_124 (va_up_list [(ad10 0), (ad11 0), (ad12 0)] (ad13 0)) ?_
  rw [gset hlW]
  show N D m_T_new (nrm 4 58 2116) 58 2116 125 [some (.ref h0), some (.int (3 : Int32))] [] ((h0, .inr (10, [.ref (ad1 0), .ref (ad2 0), .ref (ad3 0), .ref (ad4 0), .ref (ad5 0), .ref (ad6 0), .ref (ad7 0), .ref (ad8 0), .ref q9])) :: (Wp ++ ((q9, .inl (c9, 6, .inr (.inr (.inr (.inr (fun i => ([(ad10 0), (ad11 0), (ad12 0), (ad13 0)] : List Nat)[i]?)))))) :: [(ad10 0, .inr (8, [.ref (ad10 1), .int 0, .int 0, .int 0, .int 0])), (ad10 1, .inl (ca10 1, 60, .inr (.inl (fun _ => 0)))), (ad11 0, .inr (8, [.ref (ad11 1), .int 0, .int 0, .int 0, .int 0])), (ad11 1, .inl (ca11 1, 60, .inr (.inl (fun _ => 0)))), (ad12 0, .inr (8, [.ref (ad12 1), .int 0, .int 0, .int 0, .int 0])), (ad12 1, .inl (ca12 1, 60, .inr (.inl (fun _ => 0)))), (ad13 0, .inr (8, [.ref (ad13 1), .int 0, .int 0, .int 0, .int 0])), (ad13 1, .inl (ca13 1, 60, .inr (.inl (fun _ => 0))))]))) (Tp ++ ((c9, .object "TwoAgree$Shelf") :: [(ca10 1, .long), (ca11 1, .long), (ca12 1, .long), (ca13 1, .long)])) 54 1986 _
  refine n_iinc  (x := (3 : Int32)) (v := (4 : Int32)) (L2 := [some (.ref h0), some (.int (4 : Int32))]) d_T_new_125 rfl (by decide) (Nat.le_of_ble_eq_true rfl) rfl ?_
  refine n_goto  d_T_new_128 rfl ?_
  refine n_iload_n (x := (4 : Int32))  d_T_new_103 rfl ?_
  refine n_aload_n (x := h0)  d_T_new_104 rfl ?_
  refine n_getr  (h0 := h0) (fs := [.ref (ad1 0), .ref (ad2 0), .ref (ad3 0), .ref (ad4 0), .ref (ad5 0), .ref (ad6 0), .ref (ad7 0), .ref (ad8 0), .ref q9]) (j := q9) fl_RX10_67 rfl rfl d_T_new_105 ?_
  refine n_alen (v := 6) 46 34 (a := q9) (gpos hlW) (gposT hlT) rfl d_T_new_108 ?_
  refine n_icmp_ge  (x := (4 : Int32)) (y := (6 : Int32)) d_T_new_109 rfl (fun h => absurd h (by decide)) (fun _ => ?_)
  refine n_aload_n (x := h0)  d_T_new_112 rfl ?_
  refine n_getr  (h0 := h0) (fs := [.ref (ad1 0), .ref (ad2 0), .ref (ad3 0), .ref (ad4 0), .ref (ad5 0), .ref (ad6 0), .ref (ad7 0), .ref (ad8 0), .ref q9]) (j := q9) fl_RX10_67 rfl rfl d_T_new_113 ?_
  refine n_iload_n (x := (4 : Int32))  d_T_new_116 rfl ?_
  refine n_new  (ci := 8) (fs := [.null, .int 0, .int 0, .int 0, .int 0]) uw_8 tyX8_ok w_401 w_403 w_86 rfl df_8 (Nat.le_of_ble_eq_true rfl) (Nat.le_of_ble_eq_true rfl) d_T_new_117 (fun q14 => ?_)
  show N D m_T_new (nrm 4 58 2116) 58 2116 120 [some (.ref h0), some (.int (4 : Int32))] [.ref q14, .int (4 : Int32), .ref q9] (((h0, .inr (10, [.ref (ad1 0), .ref (ad2 0), .ref (ad3 0), .ref (ad4 0), .ref (ad5 0), .ref (ad6 0), .ref (ad7 0), .ref (ad8 0), .ref q9])) :: (Wp ++ ((q9, .inl (c9, 6, .inr (.inr (.inr (.inr (fun i => ([(ad10 0), (ad11 0), (ad12 0), (ad13 0)] : List Nat)[i]?)))))) :: [(ad10 0, .inr (8, [.ref (ad10 1), .int 0, .int 0, .int 0, .int 0])), (ad10 1, .inl (ca10 1, 60, .inr (.inl (fun _ => 0)))), (ad11 0, .inr (8, [.ref (ad11 1), .int 0, .int 0, .int 0, .int 0])), (ad11 1, .inl (ca11 1, 60, .inr (.inl (fun _ => 0)))), (ad12 0, .inr (8, [.ref (ad12 1), .int 0, .int 0, .int 0, .int 0])), (ad12 1, .inl (ca12 1, 60, .inr (.inl (fun _ => 0)))), (ad13 0, .inr (8, [.ref (ad13 1), .int 0, .int 0, .int 0, .int 0])), (ad13 1, .inl (ca13 1, 60, .inr (.inl (fun _ => 0))))]))) ++ [(q14, .inr (8, [.null, .int 0, .int 0, .int 0, .int 0]))]) (Tp ++ ((c9, .object "TwoAgree$Shelf") :: [(ca10 1, .long), (ca11 1, .long), (ca12 1, .long), (ca13 1, .long)])) 55 1991 _
  refine n_dup (v := .ref q14) d_T_new_120 rfl ?_
  refine n_init (q := q14) (st := [.ref q14, .int (4 : Int32), .ref q9]) k_Sh_new w_406 rfl ⟨"TwoAgree", List.mem_of_getElem? (i := 11) (by decide +kernel)⟩ w_86 w_405 rfl (by decide +kernel) (Nat.le_of_ble_eq_true rfl) (Nat.le_of_ble_eq_true rfl) (Nat.le_of_ble_eq_true rfl) (Nat.le_of_ble_eq_true rfl) (Nat.le_of_ble_eq_true rfl) (Nat.le_of_ble_eq_true rfl) d_T_new_121 (fun w14 t14 hq => ?_)
  obtain ⟨ad14, ca14, e14, rfl, rfl⟩ := hq
  subst e14
  rw [gasc, gasc2]
  show N D m_T_new (nrm 4 58 2116) 58 2116 124 [some (.ref h0), some (.int (4 : Int32))] [.ref (ad14 0), .int (4 : Int32), .ref q9] ((h0, .inr (10, [.ref (ad1 0), .ref (ad2 0), .ref (ad3 0), .ref (ad4 0), .ref (ad5 0), .ref (ad6 0), .ref (ad7 0), .ref (ad8 0), .ref q9])) :: (Wp ++ ((q9, .inl (c9, 6, .inr (.inr (.inr (.inr (fun i => ([(ad10 0), (ad11 0), (ad12 0), (ad13 0)] : List Nat)[i]?)))))) :: [(ad10 0, .inr (8, [.ref (ad10 1), .int 0, .int 0, .int 0, .int 0])), (ad10 1, .inl (ca10 1, 60, .inr (.inl (fun _ => 0)))), (ad11 0, .inr (8, [.ref (ad11 1), .int 0, .int 0, .int 0, .int 0])), (ad11 1, .inl (ca11 1, 60, .inr (.inl (fun _ => 0)))), (ad12 0, .inr (8, [.ref (ad12 1), .int 0, .int 0, .int 0, .int 0])), (ad12 1, .inl (ca12 1, 60, .inr (.inl (fun _ => 0)))), (ad13 0, .inr (8, [.ref (ad13 1), .int 0, .int 0, .int 0, .int 0])), (ad13 1, .inl (ca13 1, 60, .inr (.inl (fun _ => 0)))), (ad14 0, .inr (8, [.ref (ad14 1), .int 0, .int 0, .int 0, .int 0])), (ad14 1, .inl (ca14 1, 60, .inr (.inl (fun _ => 0))))]))) (Tp ++ ((c9, .object "TwoAgree$Shelf") :: [(ca10 1, .long), (ca11 1, .long), (ca12 1, .long), (ca13 1, .long), (ca14 1, .long)])) 56 2051 _
  refine n_astq2 (i := (4 : Int32)) (v := (ad14 0)) (a := q9) (n := 6) (vs := [.ref (ad14 1), .int 0, .int 0, .int 0, .int 0]) 46 34 55 8 (g := (fun i => ([(ad10 0), (ad11 0), (ad12 0), (ad13 0), (ad14 0)] : List Nat)[i]?)) (gpos hlW) (gposT hlT) (gpos3 (j := 8) hlW rfl) rfl (gix_in (by decide)) d_T_new_124 (va_up_list [(ad10 0), (ad11 0), (ad12 0), (ad13 0)] (ad14 0)) ?_
  rw [gset hlW]
  show N D m_T_new (nrm 4 58 2116) 58 2116 125 [some (.ref h0), some (.int (4 : Int32))] [] ((h0, .inr (10, [.ref (ad1 0), .ref (ad2 0), .ref (ad3 0), .ref (ad4 0), .ref (ad5 0), .ref (ad6 0), .ref (ad7 0), .ref (ad8 0), .ref q9])) :: (Wp ++ ((q9, .inl (c9, 6, .inr (.inr (.inr (.inr (fun i => ([(ad10 0), (ad11 0), (ad12 0), (ad13 0), (ad14 0)] : List Nat)[i]?)))))) :: [(ad10 0, .inr (8, [.ref (ad10 1), .int 0, .int 0, .int 0, .int 0])), (ad10 1, .inl (ca10 1, 60, .inr (.inl (fun _ => 0)))), (ad11 0, .inr (8, [.ref (ad11 1), .int 0, .int 0, .int 0, .int 0])), (ad11 1, .inl (ca11 1, 60, .inr (.inl (fun _ => 0)))), (ad12 0, .inr (8, [.ref (ad12 1), .int 0, .int 0, .int 0, .int 0])), (ad12 1, .inl (ca12 1, 60, .inr (.inl (fun _ => 0)))), (ad13 0, .inr (8, [.ref (ad13 1), .int 0, .int 0, .int 0, .int 0])), (ad13 1, .inl (ca13 1, 60, .inr (.inl (fun _ => 0)))), (ad14 0, .inr (8, [.ref (ad14 1), .int 0, .int 0, .int 0, .int 0])), (ad14 1, .inl (ca14 1, 60, .inr (.inl (fun _ => 0))))]))) (Tp ++ ((c9, .object "TwoAgree$Shelf") :: [(ca10 1, .long), (ca11 1, .long), (ca12 1, .long), (ca13 1, .long), (ca14 1, .long)])) 56 2051 _
  refine n_iinc  (x := (4 : Int32)) (v := (5 : Int32)) (L2 := [some (.ref h0), some (.int (5 : Int32))]) d_T_new_125 rfl (by decide) (Nat.le_of_ble_eq_true rfl) rfl ?_
  refine n_goto  d_T_new_128 rfl ?_
  refine n_iload_n (x := (5 : Int32))  d_T_new_103 rfl ?_
  refine n_aload_n (x := h0)  d_T_new_104 rfl ?_
  refine n_getr  (h0 := h0) (fs := [.ref (ad1 0), .ref (ad2 0), .ref (ad3 0), .ref (ad4 0), .ref (ad5 0), .ref (ad6 0), .ref (ad7 0), .ref (ad8 0), .ref q9]) (j := q9) fl_RX10_67 rfl rfl d_T_new_105 ?_
  refine n_alen (v := 6) 46 34 (a := q9) (gpos hlW) (gposT hlT) rfl d_T_new_108 ?_
  refine n_icmp_ge  (x := (5 : Int32)) (y := (6 : Int32)) d_T_new_109 rfl (fun h => absurd h (by decide)) (fun _ => ?_)
  refine n_aload_n (x := h0)  d_T_new_112 rfl ?_
  refine n_getr  (h0 := h0) (fs := [.ref (ad1 0), .ref (ad2 0), .ref (ad3 0), .ref (ad4 0), .ref (ad5 0), .ref (ad6 0), .ref (ad7 0), .ref (ad8 0), .ref q9]) (j := q9) fl_RX10_67 rfl rfl d_T_new_113 ?_
  refine n_iload_n (x := (5 : Int32))  d_T_new_116 rfl ?_
  refine n_new  (ci := 8) (fs := [.null, .int 0, .int 0, .int 0, .int 0]) uw_8 tyX8_ok w_401 w_403 w_86 rfl df_8 (Nat.le_of_ble_eq_true rfl) (Nat.le_of_ble_eq_true rfl) d_T_new_117 (fun q15 => ?_)
  show N D m_T_new (nrm 4 58 2116) 58 2116 120 [some (.ref h0), some (.int (5 : Int32))] [.ref q15, .int (5 : Int32), .ref q9] (((h0, .inr (10, [.ref (ad1 0), .ref (ad2 0), .ref (ad3 0), .ref (ad4 0), .ref (ad5 0), .ref (ad6 0), .ref (ad7 0), .ref (ad8 0), .ref q9])) :: (Wp ++ ((q9, .inl (c9, 6, .inr (.inr (.inr (.inr (fun i => ([(ad10 0), (ad11 0), (ad12 0), (ad13 0), (ad14 0)] : List Nat)[i]?)))))) :: [(ad10 0, .inr (8, [.ref (ad10 1), .int 0, .int 0, .int 0, .int 0])), (ad10 1, .inl (ca10 1, 60, .inr (.inl (fun _ => 0)))), (ad11 0, .inr (8, [.ref (ad11 1), .int 0, .int 0, .int 0, .int 0])), (ad11 1, .inl (ca11 1, 60, .inr (.inl (fun _ => 0)))), (ad12 0, .inr (8, [.ref (ad12 1), .int 0, .int 0, .int 0, .int 0])), (ad12 1, .inl (ca12 1, 60, .inr (.inl (fun _ => 0)))), (ad13 0, .inr (8, [.ref (ad13 1), .int 0, .int 0, .int 0, .int 0])), (ad13 1, .inl (ca13 1, 60, .inr (.inl (fun _ => 0)))), (ad14 0, .inr (8, [.ref (ad14 1), .int 0, .int 0, .int 0, .int 0])), (ad14 1, .inl (ca14 1, 60, .inr (.inl (fun _ => 0))))]))) ++ [(q15, .inr (8, [.null, .int 0, .int 0, .int 0, .int 0]))]) (Tp ++ ((c9, .object "TwoAgree$Shelf") :: [(ca10 1, .long), (ca11 1, .long), (ca12 1, .long), (ca13 1, .long), (ca14 1, .long)])) 57 2056 _
  refine n_dup (v := .ref q15) d_T_new_120 rfl ?_
  refine n_init (q := q15) (st := [.ref q15, .int (5 : Int32), .ref q9]) k_Sh_new w_406 rfl ⟨"TwoAgree", List.mem_of_getElem? (i := 11) (by decide +kernel)⟩ w_86 w_405 rfl (by decide +kernel) (Nat.le_of_ble_eq_true rfl) (Nat.le_of_ble_eq_true rfl) (Nat.le_of_ble_eq_true rfl) (Nat.le_of_ble_eq_true rfl) (Nat.le_of_ble_eq_true rfl) (Nat.le_of_ble_eq_true rfl) d_T_new_121 (fun w15 t15 hq => ?_)
  obtain ⟨ad15, ca15, e15, rfl, rfl⟩ := hq
  subst e15
  rw [gasc, gasc2]
  show N D m_T_new (nrm 4 58 2116) 58 2116 124 [some (.ref h0), some (.int (5 : Int32))] [.ref (ad15 0), .int (5 : Int32), .ref q9] ((h0, .inr (10, [.ref (ad1 0), .ref (ad2 0), .ref (ad3 0), .ref (ad4 0), .ref (ad5 0), .ref (ad6 0), .ref (ad7 0), .ref (ad8 0), .ref q9])) :: (Wp ++ ((q9, .inl (c9, 6, .inr (.inr (.inr (.inr (fun i => ([(ad10 0), (ad11 0), (ad12 0), (ad13 0), (ad14 0)] : List Nat)[i]?)))))) :: [(ad10 0, .inr (8, [.ref (ad10 1), .int 0, .int 0, .int 0, .int 0])), (ad10 1, .inl (ca10 1, 60, .inr (.inl (fun _ => 0)))), (ad11 0, .inr (8, [.ref (ad11 1), .int 0, .int 0, .int 0, .int 0])), (ad11 1, .inl (ca11 1, 60, .inr (.inl (fun _ => 0)))), (ad12 0, .inr (8, [.ref (ad12 1), .int 0, .int 0, .int 0, .int 0])), (ad12 1, .inl (ca12 1, 60, .inr (.inl (fun _ => 0)))), (ad13 0, .inr (8, [.ref (ad13 1), .int 0, .int 0, .int 0, .int 0])), (ad13 1, .inl (ca13 1, 60, .inr (.inl (fun _ => 0)))), (ad14 0, .inr (8, [.ref (ad14 1), .int 0, .int 0, .int 0, .int 0])), (ad14 1, .inl (ca14 1, 60, .inr (.inl (fun _ => 0)))), (ad15 0, .inr (8, [.ref (ad15 1), .int 0, .int 0, .int 0, .int 0])), (ad15 1, .inl (ca15 1, 60, .inr (.inl (fun _ => 0))))]))) (Tp ++ ((c9, .object "TwoAgree$Shelf") :: [(ca10 1, .long), (ca11 1, .long), (ca12 1, .long), (ca13 1, .long), (ca14 1, .long), (ca15 1, .long)])) 58 2116 _
  refine n_astq2 (i := (5 : Int32)) (v := (ad15 0)) (a := q9) (n := 6) (vs := [.ref (ad15 1), .int 0, .int 0, .int 0, .int 0]) 46 34 57 8 (g := (fun i => ([(ad10 0), (ad11 0), (ad12 0), (ad13 0), (ad14 0), (ad15 0)] : List Nat)[i]?)) (gpos hlW) (gposT hlT) (gpos3 (j := 10) hlW rfl) rfl (gix_in (by decide)) d_T_new_124 (va_up_list [(ad10 0), (ad11 0), (ad12 0), (ad13 0), (ad14 0)] (ad15 0)) ?_
  rw [gset hlW]
  show N D m_T_new (nrm 4 58 2116) 58 2116 125 [some (.ref h0), some (.int (5 : Int32))] [] ((h0, .inr (10, [.ref (ad1 0), .ref (ad2 0), .ref (ad3 0), .ref (ad4 0), .ref (ad5 0), .ref (ad6 0), .ref (ad7 0), .ref (ad8 0), .ref q9])) :: (Wp ++ ((q9, .inl (c9, 6, .inr (.inr (.inr (.inr (fun i => ([(ad10 0), (ad11 0), (ad12 0), (ad13 0), (ad14 0), (ad15 0)] : List Nat)[i]?)))))) :: [(ad10 0, .inr (8, [.ref (ad10 1), .int 0, .int 0, .int 0, .int 0])), (ad10 1, .inl (ca10 1, 60, .inr (.inl (fun _ => 0)))), (ad11 0, .inr (8, [.ref (ad11 1), .int 0, .int 0, .int 0, .int 0])), (ad11 1, .inl (ca11 1, 60, .inr (.inl (fun _ => 0)))), (ad12 0, .inr (8, [.ref (ad12 1), .int 0, .int 0, .int 0, .int 0])), (ad12 1, .inl (ca12 1, 60, .inr (.inl (fun _ => 0)))), (ad13 0, .inr (8, [.ref (ad13 1), .int 0, .int 0, .int 0, .int 0])), (ad13 1, .inl (ca13 1, 60, .inr (.inl (fun _ => 0)))), (ad14 0, .inr (8, [.ref (ad14 1), .int 0, .int 0, .int 0, .int 0])), (ad14 1, .inl (ca14 1, 60, .inr (.inl (fun _ => 0)))), (ad15 0, .inr (8, [.ref (ad15 1), .int 0, .int 0, .int 0, .int 0])), (ad15 1, .inl (ca15 1, 60, .inr (.inl (fun _ => 0))))]))) (Tp ++ ((c9, .object "TwoAgree$Shelf") :: [(ca10 1, .long), (ca11 1, .long), (ca12 1, .long), (ca13 1, .long), (ca14 1, .long), (ca15 1, .long)])) 58 2116 _
  refine n_iinc  (x := (5 : Int32)) (v := (6 : Int32)) (L2 := [some (.ref h0), some (.int (6 : Int32))]) d_T_new_125 rfl (by decide) (Nat.le_of_ble_eq_true rfl) rfl ?_
  refine n_goto  d_T_new_128 rfl ?_
  refine n_iload_n (x := (6 : Int32))  d_T_new_103 rfl ?_
  refine n_aload_n (x := h0)  d_T_new_104 rfl ?_
  refine n_getr  (h0 := h0) (fs := [.ref (ad1 0), .ref (ad2 0), .ref (ad3 0), .ref (ad4 0), .ref (ad5 0), .ref (ad6 0), .ref (ad7 0), .ref (ad8 0), .ref q9]) (j := q9) fl_RX10_67 rfl rfl d_T_new_105 ?_
  refine n_alen (v := 6) 46 34 (a := q9) (gpos hlW) (gposT hlT) rfl d_T_new_108 ?_
  refine n_icmp_ge  (x := (6 : Int32)) (y := (6 : Int32)) d_T_new_109 rfl (fun _ => ?_) (fun h => absurd (by decide) h)
  refine n_ret  rfl (Nat.le_refl _) (Nat.le_refl _) (Nat.le_refl _) (Nat.le_refl _) d_T_new_131 ?_
  exact ⟨(fun k => ([h0, (ad1 0), (ad1 1), (ad1 2), (ad1 3), (ad1 4), (ad1 5), (ad1 6), (ad1 7), (ad1 8), (ad1 9), (ad2 0), (ad2 1), (ad2 2), (ad2 3), (ad2 4), (ad2 5), (ad2 6), (ad3 0), (ad3 1), (ad3 2), (ad3 3), (ad3 4), (ad3 5), (ad3 6), (ad3 7), (ad3 8), (ad4 0), (ad4 1), (ad4 2), (ad4 3), (ad5 0), (ad5 1), (ad5 2), (ad5 3), (ad5 4), (ad6 0), (ad6 1), (ad7 0), (ad7 1), (ad7 2), (ad7 3), (ad7 4), (ad8 0), (ad8 1), (ad8 2), q9, (ad10 0), (ad10 1), (ad11 0), (ad11 1), (ad12 0), (ad12 1), (ad13 0), (ad13 1), (ad14 0), (ad14 1), (ad15 0), (ad15 1)] : List Nat).getD k 0), (fun k => ([0, 0, (ca1 1), (ca1 2), (ca1 3), (ca1 4), 0, (ca1 6), (ca1 7), (ca1 8), (ca1 9), 0, (ca2 1), (ca2 2), (ca2 3), (ca2 4), (ca2 5), (ca2 6), 0, 0, (ca3 2), (ca3 3), (ca3 4), (ca3 5), (ca3 6), (ca3 7), (ca3 8), 0, (ca4 1), (ca4 2), (ca4 3), 0, (ca5 1), (ca5 2), (ca5 3), (ca5 4), 0, (ca6 1), 0, (ca7 1), (ca7 2), 0, (ca7 4), 0, (ca8 1), (ca8 2), c9, 0, (ca10 1), 0, (ca11 1), 0, (ca12 1), 0, (ca13 1), 0, (ca14 1), 0, (ca15 1)] : List ClassId).getD k 0), rfl, (by rw [show (fun i => ([(ad10 0), (ad11 0), (ad12 0), (ad13 0), (ad14 0), (ad15 0)] : List Nat)[i]?) = (fun i => (([47, 49, 51, 53, 55, 57] : List Nat)[i]?).map (fun k => ([h0, (ad1 0), (ad1 1), (ad1 2), (ad1 3), (ad1 4), (ad1 5), (ad1 6), (ad1 7), (ad1 8), (ad1 9), (ad2 0), (ad2 1), (ad2 2), (ad2 3), (ad2 4), (ad2 5), (ad2 6), (ad3 0), (ad3 1), (ad3 2), (ad3 3), (ad3 4), (ad3 5), (ad3 6), (ad3 7), (ad3 8), (ad4 0), (ad4 1), (ad4 2), (ad4 3), (ad5 0), (ad5 1), (ad5 2), (ad5 3), (ad5 4), (ad6 0), (ad6 1), (ad7 0), (ad7 1), (ad7 2), (ad7 3), (ad7 4), (ad8 0), (ad8 1), (ad8 2), q9, (ad10 0), (ad10 1), (ad11 0), (ad11 1), (ad12 0), (ad12 1), (ad13 0), (ad13 1), (ad14 0), (ad14 1), (ad15 0), (ad15 1)] : List Nat).getD k 0)) from gra_eq (fun k => ([h0, (ad1 0), (ad1 1), (ad1 2), (ad1 3), (ad1 4), (ad1 5), (ad1 6), (ad1 7), (ad1 8), (ad1 9), (ad2 0), (ad2 1), (ad2 2), (ad2 3), (ad2 4), (ad2 5), (ad2 6), (ad3 0), (ad3 1), (ad3 2), (ad3 3), (ad3 4), (ad3 5), (ad3 6), (ad3 7), (ad3 8), (ad4 0), (ad4 1), (ad4 2), (ad4 3), (ad5 0), (ad5 1), (ad5 2), (ad5 3), (ad5 4), (ad6 0), (ad6 1), (ad7 0), (ad7 1), (ad7 2), (ad7 3), (ad7 4), (ad8 0), (ad8 1), (ad8 2), q9, (ad10 0), (ad10 1), (ad11 0), (ad11 1), (ad12 0), (ad12 1), (ad13 0), (ad13 1), (ad14 0), (ad14 1), (ad15 0), (ad15 1)] : List Nat).getD k 0) [47, 49, 51, 53, 55, 57], hWp, hW8, hW7, hW6, hW5, hW4, hW3, hW2, hW1, hw1, hw2, hw3, hw4, hw5, hw6, hw7, hw8]; rfl), (by rw [hTp, hT8, hT7, hT6, hT5, hT4, hT3, hT2, hT1, ht1, ht2, ht3, ht4, ht5, ht6, ht7, ht8]; rfl)⟩
def gzm : gS := (fun c => if c = 0 then (fun k => if k = 10 then -1 else 0) else if c = 17 then (fun i => if i < 6 then (-1 : Int32) else 0) else fun _ => 0, fun _ _ => 0)
def sh_11 : List gSh := [.inl (11, [some 1, some 2, some 3, some 4, none, none, none, some 5, none, some 6, none, none, none, none, none, none, some 7, some 8, some 9, some 10, some 11, none, none, some 12, none, none, none, none, some 13, some 14, none, some 15, some 16, none, none, none, some 17, some 18, some 19, some 20]), .inr (.inl 43), .inr (.inl 40), .inr (.inl 40), .inr (.inl 40), .inr (.inl 120), .inr (.inl 120), .inr (.inl 6), .inr (.inl 10), .inr (.inl 1024), .inr (.inl 8), .inr (.inl 6), .inr (.inl 5), .inr (.inl 43), .inr (.inl 5), .inr (.inl 50), .inr (.inl 24), .inr (.inl 6), .inr (.inl 6), .inr (.inr (.inl 360)), .inr (.inr (.inl 60))]
set_option maxRecDepth 100000 in
theorem k_M_new : NCt m_M_new 11 2 20 2016 [.null, .null, .null, .null, .int 0, .int 0, .int 0, .null, .int 0, .null, .int 0, .int 0, .int 0, .int 0, .int 0, .int 0, .null, .null, .null, .null, .null, .int 0, .int 0, .null, .int 0, .int 0, .int 0, .int 0, .null, .null, .int 0, .null, .null, .int 0, .int 0, .int 0, .null, .null, .null, .null] (fun h0 ws tys => ∃ (ad : Nat → Nat) (cA : Nat → ClassId), ad 0 = h0 ∧ ws = gL ad cA gzm 0 sh_11 ∧ tys = gYL cA 0 sh_11) := by
  refine NCt.of (by decide +kernel) (Nat.le_of_ble_eq_true rfl) rfl (fun D h0 => ?_)
  show N D m_M_new (nrm 2 20 2016) 20 2016 0 [some (.ref h0), none] [] [(h0, .inr (11, [.null, .null, .null, .null, .int 0, .int 0, .int 0, .null, .int 0, .null, .int 0, .int 0, .int 0, .int 0, .int 0, .int 0, .null, .null, .null, .null, .null, .int 0, .int 0, .null, .int 0, .int 0, .int 0, .int 0, .null, .null, .int 0, .null, .null, .int 0, .int 0, .int 0, .null, .null, .null, .null]))] [] 0 0 _
  refine n_aload_n (x := h0)  d_M_new_0 rfl ?_
  refine n_objInit (st := []) (a := h0)  w_1134 w_103 wc_obj d_M_new_1 (Nat.le_of_ble_eq_true rfl) (Nat.le_of_ble_eq_true rfl) ?_
  refine n_aload_n (x := h0)  d_M_new_4 rfl ?_
  refine n_const  (v := (43 : Int32)) d_M_new_5 (Or.inr (Or.inl ⟨_, rfl, by decide, rfl⟩)) ?_
  refine n_newai  (n := (43 : Int32)) (N' := 43) w_141 d_M_new_7 (by decide) (by decide) (by decide) (Nat.le_of_ble_eq_true rfl) (Nat.le_of_ble_eq_true rfl) (fun q1 c1 => ?_)
  show N D m_M_new (nrm 2 20 2016) 20 2016 9 [some (.ref h0), none] [.ref q1, .ref h0] [(h0, .inr (11, [.null, .null, .null, .null, .int 0, .int 0, .int 0, .null, .int 0, .null, .int 0, .int 0, .int 0, .int 0, .int 0, .int 0, .null, .null, .null, .null, .null, .int 0, .int 0, .null, .int 0, .int 0, .int 0, .int 0, .null, .null, .int 0, .null, .null, .int 0, .int 0, .int 0, .null, .null, .null, .null])), (q1, .inl (c1, 43, .inl (fun _ => 0)))] [(c1, .int)] 1 43 _
  refine n_put  (h0 := h0) (fs := [.null, .null, .null, .null, .int 0, .int 0, .int 0, .null, .int 0, .null, .int 0, .int 0, .int 0, .int 0, .int 0, .int 0, .null, .null, .null, .null, .null, .int 0, .int 0, .null, .int 0, .int 0, .int 0, .int 0, .null, .null, .int 0, .null, .null, .int 0, .int 0, .int 0, .null, .null, .null, .null]) (v := .ref q1) fl_RX11_9 rfl rfl rfl rfl (Nat.le_of_ble_eq_true rfl) d_M_new_9 ?_
  show N D m_M_new (nrm 2 20 2016) 20 2016 12 [some (.ref h0), none] [] [(h0, .inr (11, [.ref q1, .null, .null, .null, .int 0, .int 0, .int 0, .null, .int 0, .null, .int 0, .int 0, .int 0, .int 0, .int 0, .int 0, .null, .null, .null, .null, .null, .int 0, .int 0, .null, .int 0, .int 0, .int 0, .int 0, .null, .null, .int 0, .null, .null, .int 0, .int 0, .int 0, .null, .null, .null, .null])), (q1, .inl (c1, 43, .inl (fun _ => 0)))] [(c1, .int)] 1 43 _
  refine n_aload_n (x := h0)  d_M_new_12 rfl ?_
  refine n_const  (v := (40 : Int32)) d_M_new_13 (Or.inr (Or.inl ⟨_, rfl, by decide, rfl⟩)) ?_
  refine n_newai  (n := (40 : Int32)) (N' := 40) w_141 d_M_new_15 (by decide) (by decide) (by decide) (Nat.le_of_ble_eq_true rfl) (Nat.le_of_ble_eq_true rfl) (fun q2 c2 => ?_)
  show N D m_M_new (nrm 2 20 2016) 20 2016 17 [some (.ref h0), none] [.ref q2, .ref h0] [(h0, .inr (11, [.ref q1, .null, .null, .null, .int 0, .int 0, .int 0, .null, .int 0, .null, .int 0, .int 0, .int 0, .int 0, .int 0, .int 0, .null, .null, .null, .null, .null, .int 0, .int 0, .null, .int 0, .int 0, .int 0, .int 0, .null, .null, .int 0, .null, .null, .int 0, .int 0, .int 0, .null, .null, .null, .null])), (q1, .inl (c1, 43, .inl (fun _ => 0))), (q2, .inl (c2, 40, .inl (fun _ => 0)))] [(c1, .int), (c2, .int)] 2 83 _
  refine n_put  (h0 := h0) (fs := [.ref q1, .null, .null, .null, .int 0, .int 0, .int 0, .null, .int 0, .null, .int 0, .int 0, .int 0, .int 0, .int 0, .int 0, .null, .null, .null, .null, .null, .int 0, .int 0, .null, .int 0, .int 0, .int 0, .int 0, .null, .null, .int 0, .null, .null, .int 0, .int 0, .int 0, .null, .null, .null, .null]) (v := .ref q2) fl_RX11_13 rfl rfl rfl rfl (Nat.le_of_ble_eq_true rfl) d_M_new_17 ?_
  show N D m_M_new (nrm 2 20 2016) 20 2016 20 [some (.ref h0), none] [] [(h0, .inr (11, [.ref q1, .ref q2, .null, .null, .int 0, .int 0, .int 0, .null, .int 0, .null, .int 0, .int 0, .int 0, .int 0, .int 0, .int 0, .null, .null, .null, .null, .null, .int 0, .int 0, .null, .int 0, .int 0, .int 0, .int 0, .null, .null, .int 0, .null, .null, .int 0, .int 0, .int 0, .null, .null, .null, .null])), (q1, .inl (c1, 43, .inl (fun _ => 0))), (q2, .inl (c2, 40, .inl (fun _ => 0)))] [(c1, .int), (c2, .int)] 2 83 _
  refine n_aload_n (x := h0)  d_M_new_20 rfl ?_
  refine n_const  (v := (40 : Int32)) d_M_new_21 (Or.inr (Or.inl ⟨_, rfl, by decide, rfl⟩)) ?_
  refine n_newai  (n := (40 : Int32)) (N' := 40) w_141 d_M_new_23 (by decide) (by decide) (by decide) (Nat.le_of_ble_eq_true rfl) (Nat.le_of_ble_eq_true rfl) (fun q3 c3 => ?_)
  show N D m_M_new (nrm 2 20 2016) 20 2016 25 [some (.ref h0), none] [.ref q3, .ref h0] [(h0, .inr (11, [.ref q1, .ref q2, .null, .null, .int 0, .int 0, .int 0, .null, .int 0, .null, .int 0, .int 0, .int 0, .int 0, .int 0, .int 0, .null, .null, .null, .null, .null, .int 0, .int 0, .null, .int 0, .int 0, .int 0, .int 0, .null, .null, .int 0, .null, .null, .int 0, .int 0, .int 0, .null, .null, .null, .null])), (q1, .inl (c1, 43, .inl (fun _ => 0))), (q2, .inl (c2, 40, .inl (fun _ => 0))), (q3, .inl (c3, 40, .inl (fun _ => 0)))] [(c1, .int), (c2, .int), (c3, .int)] 3 123 _
  refine n_put  (h0 := h0) (fs := [.ref q1, .ref q2, .null, .null, .int 0, .int 0, .int 0, .null, .int 0, .null, .int 0, .int 0, .int 0, .int 0, .int 0, .int 0, .null, .null, .null, .null, .null, .int 0, .int 0, .null, .int 0, .int 0, .int 0, .int 0, .null, .null, .int 0, .null, .null, .int 0, .int 0, .int 0, .null, .null, .null, .null]) (v := .ref q3) fl_RX11_16 rfl rfl rfl rfl (Nat.le_of_ble_eq_true rfl) d_M_new_25 ?_
  show N D m_M_new (nrm 2 20 2016) 20 2016 28 [some (.ref h0), none] [] [(h0, .inr (11, [.ref q1, .ref q2, .ref q3, .null, .int 0, .int 0, .int 0, .null, .int 0, .null, .int 0, .int 0, .int 0, .int 0, .int 0, .int 0, .null, .null, .null, .null, .null, .int 0, .int 0, .null, .int 0, .int 0, .int 0, .int 0, .null, .null, .int 0, .null, .null, .int 0, .int 0, .int 0, .null, .null, .null, .null])), (q1, .inl (c1, 43, .inl (fun _ => 0))), (q2, .inl (c2, 40, .inl (fun _ => 0))), (q3, .inl (c3, 40, .inl (fun _ => 0)))] [(c1, .int), (c2, .int), (c3, .int)] 3 123 _
  refine n_aload_n (x := h0)  d_M_new_28 rfl ?_
  refine n_const  (v := (40 : Int32)) d_M_new_29 (Or.inr (Or.inl ⟨_, rfl, by decide, rfl⟩)) ?_
  refine n_newai  (n := (40 : Int32)) (N' := 40) w_141 d_M_new_31 (by decide) (by decide) (by decide) (Nat.le_of_ble_eq_true rfl) (Nat.le_of_ble_eq_true rfl) (fun q4 c4 => ?_)
  show N D m_M_new (nrm 2 20 2016) 20 2016 33 [some (.ref h0), none] [.ref q4, .ref h0] [(h0, .inr (11, [.ref q1, .ref q2, .ref q3, .null, .int 0, .int 0, .int 0, .null, .int 0, .null, .int 0, .int 0, .int 0, .int 0, .int 0, .int 0, .null, .null, .null, .null, .null, .int 0, .int 0, .null, .int 0, .int 0, .int 0, .int 0, .null, .null, .int 0, .null, .null, .int 0, .int 0, .int 0, .null, .null, .null, .null])), (q1, .inl (c1, 43, .inl (fun _ => 0))), (q2, .inl (c2, 40, .inl (fun _ => 0))), (q3, .inl (c3, 40, .inl (fun _ => 0))), (q4, .inl (c4, 40, .inl (fun _ => 0)))] [(c1, .int), (c2, .int), (c3, .int), (c4, .int)] 4 163 _
  refine n_put  (h0 := h0) (fs := [.ref q1, .ref q2, .ref q3, .null, .int 0, .int 0, .int 0, .null, .int 0, .null, .int 0, .int 0, .int 0, .int 0, .int 0, .int 0, .null, .null, .null, .null, .null, .int 0, .int 0, .null, .int 0, .int 0, .int 0, .int 0, .null, .null, .int 0, .null, .null, .int 0, .int 0, .int 0, .null, .null, .null, .null]) (v := .ref q4) fl_RX11_19 rfl rfl rfl rfl (Nat.le_of_ble_eq_true rfl) d_M_new_33 ?_
  show N D m_M_new (nrm 2 20 2016) 20 2016 36 [some (.ref h0), none] [] [(h0, .inr (11, [.ref q1, .ref q2, .ref q3, .ref q4, .int 0, .int 0, .int 0, .null, .int 0, .null, .int 0, .int 0, .int 0, .int 0, .int 0, .int 0, .null, .null, .null, .null, .null, .int 0, .int 0, .null, .int 0, .int 0, .int 0, .int 0, .null, .null, .int 0, .null, .null, .int 0, .int 0, .int 0, .null, .null, .null, .null])), (q1, .inl (c1, 43, .inl (fun _ => 0))), (q2, .inl (c2, 40, .inl (fun _ => 0))), (q3, .inl (c3, 40, .inl (fun _ => 0))), (q4, .inl (c4, 40, .inl (fun _ => 0)))] [(c1, .int), (c2, .int), (c3, .int), (c4, .int)] 4 163 _
  refine n_aload_n (x := h0)  d_M_new_36 rfl ?_
  refine n_const  (v := (120 : Int32)) d_M_new_37 (Or.inr (Or.inl ⟨_, rfl, by decide, rfl⟩)) ?_
  refine n_newai  (n := (120 : Int32)) (N' := 120) w_141 d_M_new_39 (by decide) (by decide) (by decide) (Nat.le_of_ble_eq_true rfl) (Nat.le_of_ble_eq_true rfl) (fun q5 c5 => ?_)
  show N D m_M_new (nrm 2 20 2016) 20 2016 41 [some (.ref h0), none] [.ref q5, .ref h0] [(h0, .inr (11, [.ref q1, .ref q2, .ref q3, .ref q4, .int 0, .int 0, .int 0, .null, .int 0, .null, .int 0, .int 0, .int 0, .int 0, .int 0, .int 0, .null, .null, .null, .null, .null, .int 0, .int 0, .null, .int 0, .int 0, .int 0, .int 0, .null, .null, .int 0, .null, .null, .int 0, .int 0, .int 0, .null, .null, .null, .null])), (q1, .inl (c1, 43, .inl (fun _ => 0))), (q2, .inl (c2, 40, .inl (fun _ => 0))), (q3, .inl (c3, 40, .inl (fun _ => 0))), (q4, .inl (c4, 40, .inl (fun _ => 0))), (q5, .inl (c5, 120, .inl (fun _ => 0)))] [(c1, .int), (c2, .int), (c3, .int), (c4, .int), (c5, .int)] 5 283 _
  refine n_put  (h0 := h0) (fs := [.ref q1, .ref q2, .ref q3, .ref q4, .int 0, .int 0, .int 0, .null, .int 0, .null, .int 0, .int 0, .int 0, .int 0, .int 0, .int 0, .null, .null, .null, .null, .null, .int 0, .int 0, .null, .int 0, .int 0, .int 0, .int 0, .null, .null, .int 0, .null, .null, .int 0, .int 0, .int 0, .null, .null, .null, .null]) (v := .ref q5) fl_RX11_22 rfl rfl rfl rfl (Nat.le_of_ble_eq_true rfl) d_M_new_41 ?_
  show N D m_M_new (nrm 2 20 2016) 20 2016 44 [some (.ref h0), none] [] [(h0, .inr (11, [.ref q1, .ref q2, .ref q3, .ref q4, .int 0, .int 0, .int 0, .ref q5, .int 0, .null, .int 0, .int 0, .int 0, .int 0, .int 0, .int 0, .null, .null, .null, .null, .null, .int 0, .int 0, .null, .int 0, .int 0, .int 0, .int 0, .null, .null, .int 0, .null, .null, .int 0, .int 0, .int 0, .null, .null, .null, .null])), (q1, .inl (c1, 43, .inl (fun _ => 0))), (q2, .inl (c2, 40, .inl (fun _ => 0))), (q3, .inl (c3, 40, .inl (fun _ => 0))), (q4, .inl (c4, 40, .inl (fun _ => 0))), (q5, .inl (c5, 120, .inl (fun _ => 0)))] [(c1, .int), (c2, .int), (c3, .int), (c4, .int), (c5, .int)] 5 283 _
  refine n_aload_n (x := h0)  d_M_new_44 rfl ?_
  refine n_const  (v := (120 : Int32)) d_M_new_45 (Or.inr (Or.inl ⟨_, rfl, by decide, rfl⟩)) ?_
  refine n_newai  (n := (120 : Int32)) (N' := 120) w_141 d_M_new_47 (by decide) (by decide) (by decide) (Nat.le_of_ble_eq_true rfl) (Nat.le_of_ble_eq_true rfl) (fun q6 c6 => ?_)
  show N D m_M_new (nrm 2 20 2016) 20 2016 49 [some (.ref h0), none] [.ref q6, .ref h0] [(h0, .inr (11, [.ref q1, .ref q2, .ref q3, .ref q4, .int 0, .int 0, .int 0, .ref q5, .int 0, .null, .int 0, .int 0, .int 0, .int 0, .int 0, .int 0, .null, .null, .null, .null, .null, .int 0, .int 0, .null, .int 0, .int 0, .int 0, .int 0, .null, .null, .int 0, .null, .null, .int 0, .int 0, .int 0, .null, .null, .null, .null])), (q1, .inl (c1, 43, .inl (fun _ => 0))), (q2, .inl (c2, 40, .inl (fun _ => 0))), (q3, .inl (c3, 40, .inl (fun _ => 0))), (q4, .inl (c4, 40, .inl (fun _ => 0))), (q5, .inl (c5, 120, .inl (fun _ => 0))), (q6, .inl (c6, 120, .inl (fun _ => 0)))] [(c1, .int), (c2, .int), (c3, .int), (c4, .int), (c5, .int), (c6, .int)] 6 403 _
  refine n_put  (h0 := h0) (fs := [.ref q1, .ref q2, .ref q3, .ref q4, .int 0, .int 0, .int 0, .ref q5, .int 0, .null, .int 0, .int 0, .int 0, .int 0, .int 0, .int 0, .null, .null, .null, .null, .null, .int 0, .int 0, .null, .int 0, .int 0, .int 0, .int 0, .null, .null, .int 0, .null, .null, .int 0, .int 0, .int 0, .null, .null, .null, .null]) (v := .ref q6) fl_RX11_25 rfl rfl rfl rfl (Nat.le_of_ble_eq_true rfl) d_M_new_49 ?_
  show N D m_M_new (nrm 2 20 2016) 20 2016 52 [some (.ref h0), none] [] [(h0, .inr (11, [.ref q1, .ref q2, .ref q3, .ref q4, .int 0, .int 0, .int 0, .ref q5, .int 0, .ref q6, .int 0, .int 0, .int 0, .int 0, .int 0, .int 0, .null, .null, .null, .null, .null, .int 0, .int 0, .null, .int 0, .int 0, .int 0, .int 0, .null, .null, .int 0, .null, .null, .int 0, .int 0, .int 0, .null, .null, .null, .null])), (q1, .inl (c1, 43, .inl (fun _ => 0))), (q2, .inl (c2, 40, .inl (fun _ => 0))), (q3, .inl (c3, 40, .inl (fun _ => 0))), (q4, .inl (c4, 40, .inl (fun _ => 0))), (q5, .inl (c5, 120, .inl (fun _ => 0))), (q6, .inl (c6, 120, .inl (fun _ => 0)))] [(c1, .int), (c2, .int), (c3, .int), (c4, .int), (c5, .int), (c6, .int)] 6 403 _
  refine n_aload_n (x := h0)  d_M_new_52 rfl ?_
  refine n_const  (v := (6 : Int32)) d_M_new_53 (Or.inr (Or.inl ⟨_, rfl, by decide, rfl⟩)) ?_
  refine n_newai  (n := (6 : Int32)) (N' := 6) w_141 d_M_new_55 (by decide) (by decide) (by decide) (Nat.le_of_ble_eq_true rfl) (Nat.le_of_ble_eq_true rfl) (fun q7 c7 => ?_)
  show N D m_M_new (nrm 2 20 2016) 20 2016 57 [some (.ref h0), none] [.ref q7, .ref h0] [(h0, .inr (11, [.ref q1, .ref q2, .ref q3, .ref q4, .int 0, .int 0, .int 0, .ref q5, .int 0, .ref q6, .int 0, .int 0, .int 0, .int 0, .int 0, .int 0, .null, .null, .null, .null, .null, .int 0, .int 0, .null, .int 0, .int 0, .int 0, .int 0, .null, .null, .int 0, .null, .null, .int 0, .int 0, .int 0, .null, .null, .null, .null])), (q1, .inl (c1, 43, .inl (fun _ => 0))), (q2, .inl (c2, 40, .inl (fun _ => 0))), (q3, .inl (c3, 40, .inl (fun _ => 0))), (q4, .inl (c4, 40, .inl (fun _ => 0))), (q5, .inl (c5, 120, .inl (fun _ => 0))), (q6, .inl (c6, 120, .inl (fun _ => 0))), (q7, .inl (c7, 6, .inl (fun _ => 0)))] [(c1, .int), (c2, .int), (c3, .int), (c4, .int), (c5, .int), (c6, .int), (c7, .int)] 7 409 _
  refine n_put  (h0 := h0) (fs := [.ref q1, .ref q2, .ref q3, .ref q4, .int 0, .int 0, .int 0, .ref q5, .int 0, .ref q6, .int 0, .int 0, .int 0, .int 0, .int 0, .int 0, .null, .null, .null, .null, .null, .int 0, .int 0, .null, .int 0, .int 0, .int 0, .int 0, .null, .null, .int 0, .null, .null, .int 0, .int 0, .int 0, .null, .null, .null, .null]) (v := .ref q7) fl_RX11_28 rfl rfl rfl rfl (Nat.le_of_ble_eq_true rfl) d_M_new_57 ?_
  show N D m_M_new (nrm 2 20 2016) 20 2016 60 [some (.ref h0), none] [] [(h0, .inr (11, [.ref q1, .ref q2, .ref q3, .ref q4, .int 0, .int 0, .int 0, .ref q5, .int 0, .ref q6, .int 0, .int 0, .int 0, .int 0, .int 0, .int 0, .ref q7, .null, .null, .null, .null, .int 0, .int 0, .null, .int 0, .int 0, .int 0, .int 0, .null, .null, .int 0, .null, .null, .int 0, .int 0, .int 0, .null, .null, .null, .null])), (q1, .inl (c1, 43, .inl (fun _ => 0))), (q2, .inl (c2, 40, .inl (fun _ => 0))), (q3, .inl (c3, 40, .inl (fun _ => 0))), (q4, .inl (c4, 40, .inl (fun _ => 0))), (q5, .inl (c5, 120, .inl (fun _ => 0))), (q6, .inl (c6, 120, .inl (fun _ => 0))), (q7, .inl (c7, 6, .inl (fun _ => 0)))] [(c1, .int), (c2, .int), (c3, .int), (c4, .int), (c5, .int), (c6, .int), (c7, .int)] 7 409 _
  refine n_aload_n (x := h0)  d_M_new_60 rfl ?_
  refine n_const  (v := (10 : Int32)) d_M_new_61 (Or.inr (Or.inl ⟨_, rfl, by decide, rfl⟩)) ?_
  refine n_newai  (n := (10 : Int32)) (N' := 10) w_141 d_M_new_63 (by decide) (by decide) (by decide) (Nat.le_of_ble_eq_true rfl) (Nat.le_of_ble_eq_true rfl) (fun q8 c8 => ?_)
  show N D m_M_new (nrm 2 20 2016) 20 2016 65 [some (.ref h0), none] [.ref q8, .ref h0] [(h0, .inr (11, [.ref q1, .ref q2, .ref q3, .ref q4, .int 0, .int 0, .int 0, .ref q5, .int 0, .ref q6, .int 0, .int 0, .int 0, .int 0, .int 0, .int 0, .ref q7, .null, .null, .null, .null, .int 0, .int 0, .null, .int 0, .int 0, .int 0, .int 0, .null, .null, .int 0, .null, .null, .int 0, .int 0, .int 0, .null, .null, .null, .null])), (q1, .inl (c1, 43, .inl (fun _ => 0))), (q2, .inl (c2, 40, .inl (fun _ => 0))), (q3, .inl (c3, 40, .inl (fun _ => 0))), (q4, .inl (c4, 40, .inl (fun _ => 0))), (q5, .inl (c5, 120, .inl (fun _ => 0))), (q6, .inl (c6, 120, .inl (fun _ => 0))), (q7, .inl (c7, 6, .inl (fun _ => 0))), (q8, .inl (c8, 10, .inl (fun _ => 0)))] [(c1, .int), (c2, .int), (c3, .int), (c4, .int), (c5, .int), (c6, .int), (c7, .int), (c8, .int)] 8 419 _
  refine n_put  (h0 := h0) (fs := [.ref q1, .ref q2, .ref q3, .ref q4, .int 0, .int 0, .int 0, .ref q5, .int 0, .ref q6, .int 0, .int 0, .int 0, .int 0, .int 0, .int 0, .ref q7, .null, .null, .null, .null, .int 0, .int 0, .null, .int 0, .int 0, .int 0, .int 0, .null, .null, .int 0, .null, .null, .int 0, .int 0, .int 0, .null, .null, .null, .null]) (v := .ref q8) fl_RX11_31 rfl rfl rfl rfl (Nat.le_of_ble_eq_true rfl) d_M_new_65 ?_
  show N D m_M_new (nrm 2 20 2016) 20 2016 68 [some (.ref h0), none] [] [(h0, .inr (11, [.ref q1, .ref q2, .ref q3, .ref q4, .int 0, .int 0, .int 0, .ref q5, .int 0, .ref q6, .int 0, .int 0, .int 0, .int 0, .int 0, .int 0, .ref q7, .ref q8, .null, .null, .null, .int 0, .int 0, .null, .int 0, .int 0, .int 0, .int 0, .null, .null, .int 0, .null, .null, .int 0, .int 0, .int 0, .null, .null, .null, .null])), (q1, .inl (c1, 43, .inl (fun _ => 0))), (q2, .inl (c2, 40, .inl (fun _ => 0))), (q3, .inl (c3, 40, .inl (fun _ => 0))), (q4, .inl (c4, 40, .inl (fun _ => 0))), (q5, .inl (c5, 120, .inl (fun _ => 0))), (q6, .inl (c6, 120, .inl (fun _ => 0))), (q7, .inl (c7, 6, .inl (fun _ => 0))), (q8, .inl (c8, 10, .inl (fun _ => 0)))] [(c1, .int), (c2, .int), (c3, .int), (c4, .int), (c5, .int), (c6, .int), (c7, .int), (c8, .int)] 8 419 _
  refine n_aload_n (x := h0)  d_M_new_68 rfl ?_
  refine n_const  (v := (1024 : Int32)) d_M_new_69 (Or.inr (Or.inr ⟨_, rfl, by decide, rfl⟩)) ?_
  refine n_newai  (n := (1024 : Int32)) (N' := 1024) w_141 d_M_new_72 (by decide) (by decide) (by decide) (Nat.le_of_ble_eq_true rfl) (Nat.le_of_ble_eq_true rfl) (fun q9 c9 => ?_)
  show N D m_M_new (nrm 2 20 2016) 20 2016 74 [some (.ref h0), none] [.ref q9, .ref h0] [(h0, .inr (11, [.ref q1, .ref q2, .ref q3, .ref q4, .int 0, .int 0, .int 0, .ref q5, .int 0, .ref q6, .int 0, .int 0, .int 0, .int 0, .int 0, .int 0, .ref q7, .ref q8, .null, .null, .null, .int 0, .int 0, .null, .int 0, .int 0, .int 0, .int 0, .null, .null, .int 0, .null, .null, .int 0, .int 0, .int 0, .null, .null, .null, .null])), (q1, .inl (c1, 43, .inl (fun _ => 0))), (q2, .inl (c2, 40, .inl (fun _ => 0))), (q3, .inl (c3, 40, .inl (fun _ => 0))), (q4, .inl (c4, 40, .inl (fun _ => 0))), (q5, .inl (c5, 120, .inl (fun _ => 0))), (q6, .inl (c6, 120, .inl (fun _ => 0))), (q7, .inl (c7, 6, .inl (fun _ => 0))), (q8, .inl (c8, 10, .inl (fun _ => 0))), (q9, .inl (c9, 1024, .inl (fun _ => 0)))] [(c1, .int), (c2, .int), (c3, .int), (c4, .int), (c5, .int), (c6, .int), (c7, .int), (c8, .int), (c9, .int)] 9 1443 _
  refine n_put  (h0 := h0) (fs := [.ref q1, .ref q2, .ref q3, .ref q4, .int 0, .int 0, .int 0, .ref q5, .int 0, .ref q6, .int 0, .int 0, .int 0, .int 0, .int 0, .int 0, .ref q7, .ref q8, .null, .null, .null, .int 0, .int 0, .null, .int 0, .int 0, .int 0, .int 0, .null, .null, .int 0, .null, .null, .int 0, .int 0, .int 0, .null, .null, .null, .null]) (v := .ref q9) fl_RX11_34 rfl rfl rfl rfl (Nat.le_of_ble_eq_true rfl) d_M_new_74 ?_
  show N D m_M_new (nrm 2 20 2016) 20 2016 77 [some (.ref h0), none] [] [(h0, .inr (11, [.ref q1, .ref q2, .ref q3, .ref q4, .int 0, .int 0, .int 0, .ref q5, .int 0, .ref q6, .int 0, .int 0, .int 0, .int 0, .int 0, .int 0, .ref q7, .ref q8, .ref q9, .null, .null, .int 0, .int 0, .null, .int 0, .int 0, .int 0, .int 0, .null, .null, .int 0, .null, .null, .int 0, .int 0, .int 0, .null, .null, .null, .null])), (q1, .inl (c1, 43, .inl (fun _ => 0))), (q2, .inl (c2, 40, .inl (fun _ => 0))), (q3, .inl (c3, 40, .inl (fun _ => 0))), (q4, .inl (c4, 40, .inl (fun _ => 0))), (q5, .inl (c5, 120, .inl (fun _ => 0))), (q6, .inl (c6, 120, .inl (fun _ => 0))), (q7, .inl (c7, 6, .inl (fun _ => 0))), (q8, .inl (c8, 10, .inl (fun _ => 0))), (q9, .inl (c9, 1024, .inl (fun _ => 0)))] [(c1, .int), (c2, .int), (c3, .int), (c4, .int), (c5, .int), (c6, .int), (c7, .int), (c8, .int), (c9, .int)] 9 1443 _
  refine n_aload_n (x := h0)  d_M_new_77 rfl ?_
  refine n_const  (v := (8 : Int32)) d_M_new_78 (Or.inr (Or.inl ⟨_, rfl, by decide, rfl⟩)) ?_
  refine n_newai  (n := (8 : Int32)) (N' := 8) w_141 d_M_new_80 (by decide) (by decide) (by decide) (Nat.le_of_ble_eq_true rfl) (Nat.le_of_ble_eq_true rfl) (fun q10 c10 => ?_)
  show N D m_M_new (nrm 2 20 2016) 20 2016 82 [some (.ref h0), none] [.ref q10, .ref h0] [(h0, .inr (11, [.ref q1, .ref q2, .ref q3, .ref q4, .int 0, .int 0, .int 0, .ref q5, .int 0, .ref q6, .int 0, .int 0, .int 0, .int 0, .int 0, .int 0, .ref q7, .ref q8, .ref q9, .null, .null, .int 0, .int 0, .null, .int 0, .int 0, .int 0, .int 0, .null, .null, .int 0, .null, .null, .int 0, .int 0, .int 0, .null, .null, .null, .null])), (q1, .inl (c1, 43, .inl (fun _ => 0))), (q2, .inl (c2, 40, .inl (fun _ => 0))), (q3, .inl (c3, 40, .inl (fun _ => 0))), (q4, .inl (c4, 40, .inl (fun _ => 0))), (q5, .inl (c5, 120, .inl (fun _ => 0))), (q6, .inl (c6, 120, .inl (fun _ => 0))), (q7, .inl (c7, 6, .inl (fun _ => 0))), (q8, .inl (c8, 10, .inl (fun _ => 0))), (q9, .inl (c9, 1024, .inl (fun _ => 0))), (q10, .inl (c10, 8, .inl (fun _ => 0)))] [(c1, .int), (c2, .int), (c3, .int), (c4, .int), (c5, .int), (c6, .int), (c7, .int), (c8, .int), (c9, .int), (c10, .int)] 10 1451 _
  refine n_put  (h0 := h0) (fs := [.ref q1, .ref q2, .ref q3, .ref q4, .int 0, .int 0, .int 0, .ref q5, .int 0, .ref q6, .int 0, .int 0, .int 0, .int 0, .int 0, .int 0, .ref q7, .ref q8, .ref q9, .null, .null, .int 0, .int 0, .null, .int 0, .int 0, .int 0, .int 0, .null, .null, .int 0, .null, .null, .int 0, .int 0, .int 0, .null, .null, .null, .null]) (v := .ref q10) fl_RX11_37 rfl rfl rfl rfl (Nat.le_of_ble_eq_true rfl) d_M_new_82 ?_
  show N D m_M_new (nrm 2 20 2016) 20 2016 85 [some (.ref h0), none] [] [(h0, .inr (11, [.ref q1, .ref q2, .ref q3, .ref q4, .int 0, .int 0, .int 0, .ref q5, .int 0, .ref q6, .int 0, .int 0, .int 0, .int 0, .int 0, .int 0, .ref q7, .ref q8, .ref q9, .ref q10, .null, .int 0, .int 0, .null, .int 0, .int 0, .int 0, .int 0, .null, .null, .int 0, .null, .null, .int 0, .int 0, .int 0, .null, .null, .null, .null])), (q1, .inl (c1, 43, .inl (fun _ => 0))), (q2, .inl (c2, 40, .inl (fun _ => 0))), (q3, .inl (c3, 40, .inl (fun _ => 0))), (q4, .inl (c4, 40, .inl (fun _ => 0))), (q5, .inl (c5, 120, .inl (fun _ => 0))), (q6, .inl (c6, 120, .inl (fun _ => 0))), (q7, .inl (c7, 6, .inl (fun _ => 0))), (q8, .inl (c8, 10, .inl (fun _ => 0))), (q9, .inl (c9, 1024, .inl (fun _ => 0))), (q10, .inl (c10, 8, .inl (fun _ => 0)))] [(c1, .int), (c2, .int), (c3, .int), (c4, .int), (c5, .int), (c6, .int), (c7, .int), (c8, .int), (c9, .int), (c10, .int)] 10 1451 _
  refine n_aload_n (x := h0)  d_M_new_85 rfl ?_
  refine n_const  (v := (6 : Int32)) d_M_new_86 (Or.inr (Or.inl ⟨_, rfl, by decide, rfl⟩)) ?_
  refine n_newai  (n := (6 : Int32)) (N' := 6) w_141 d_M_new_88 (by decide) (by decide) (by decide) (Nat.le_of_ble_eq_true rfl) (Nat.le_of_ble_eq_true rfl) (fun q11 c11 => ?_)
  show N D m_M_new (nrm 2 20 2016) 20 2016 90 [some (.ref h0), none] [.ref q11, .ref h0] [(h0, .inr (11, [.ref q1, .ref q2, .ref q3, .ref q4, .int 0, .int 0, .int 0, .ref q5, .int 0, .ref q6, .int 0, .int 0, .int 0, .int 0, .int 0, .int 0, .ref q7, .ref q8, .ref q9, .ref q10, .null, .int 0, .int 0, .null, .int 0, .int 0, .int 0, .int 0, .null, .null, .int 0, .null, .null, .int 0, .int 0, .int 0, .null, .null, .null, .null])), (q1, .inl (c1, 43, .inl (fun _ => 0))), (q2, .inl (c2, 40, .inl (fun _ => 0))), (q3, .inl (c3, 40, .inl (fun _ => 0))), (q4, .inl (c4, 40, .inl (fun _ => 0))), (q5, .inl (c5, 120, .inl (fun _ => 0))), (q6, .inl (c6, 120, .inl (fun _ => 0))), (q7, .inl (c7, 6, .inl (fun _ => 0))), (q8, .inl (c8, 10, .inl (fun _ => 0))), (q9, .inl (c9, 1024, .inl (fun _ => 0))), (q10, .inl (c10, 8, .inl (fun _ => 0))), (q11, .inl (c11, 6, .inl (fun _ => 0)))] [(c1, .int), (c2, .int), (c3, .int), (c4, .int), (c5, .int), (c6, .int), (c7, .int), (c8, .int), (c9, .int), (c10, .int), (c11, .int)] 11 1457 _
  refine n_put  (h0 := h0) (fs := [.ref q1, .ref q2, .ref q3, .ref q4, .int 0, .int 0, .int 0, .ref q5, .int 0, .ref q6, .int 0, .int 0, .int 0, .int 0, .int 0, .int 0, .ref q7, .ref q8, .ref q9, .ref q10, .null, .int 0, .int 0, .null, .int 0, .int 0, .int 0, .int 0, .null, .null, .int 0, .null, .null, .int 0, .int 0, .int 0, .null, .null, .null, .null]) (v := .ref q11) fl_RX11_40 rfl rfl rfl rfl (Nat.le_of_ble_eq_true rfl) d_M_new_90 ?_
  show N D m_M_new (nrm 2 20 2016) 20 2016 93 [some (.ref h0), none] [] [(h0, .inr (11, [.ref q1, .ref q2, .ref q3, .ref q4, .int 0, .int 0, .int 0, .ref q5, .int 0, .ref q6, .int 0, .int 0, .int 0, .int 0, .int 0, .int 0, .ref q7, .ref q8, .ref q9, .ref q10, .ref q11, .int 0, .int 0, .null, .int 0, .int 0, .int 0, .int 0, .null, .null, .int 0, .null, .null, .int 0, .int 0, .int 0, .null, .null, .null, .null])), (q1, .inl (c1, 43, .inl (fun _ => 0))), (q2, .inl (c2, 40, .inl (fun _ => 0))), (q3, .inl (c3, 40, .inl (fun _ => 0))), (q4, .inl (c4, 40, .inl (fun _ => 0))), (q5, .inl (c5, 120, .inl (fun _ => 0))), (q6, .inl (c6, 120, .inl (fun _ => 0))), (q7, .inl (c7, 6, .inl (fun _ => 0))), (q8, .inl (c8, 10, .inl (fun _ => 0))), (q9, .inl (c9, 1024, .inl (fun _ => 0))), (q10, .inl (c10, 8, .inl (fun _ => 0))), (q11, .inl (c11, 6, .inl (fun _ => 0)))] [(c1, .int), (c2, .int), (c3, .int), (c4, .int), (c5, .int), (c6, .int), (c7, .int), (c8, .int), (c9, .int), (c10, .int), (c11, .int)] 11 1457 _
  refine n_aload_n (x := h0)  d_M_new_93 rfl ?_
  refine n_const  (v := (5 : Int32)) d_M_new_94 (Or.inl ⟨_, rfl, by decide, rfl⟩) ?_
  refine n_newai  (n := (5 : Int32)) (N' := 5) w_141 d_M_new_95 (by decide) (by decide) (by decide) (Nat.le_of_ble_eq_true rfl) (Nat.le_of_ble_eq_true rfl) (fun q12 c12 => ?_)
  show N D m_M_new (nrm 2 20 2016) 20 2016 97 [some (.ref h0), none] [.ref q12, .ref h0] [(h0, .inr (11, [.ref q1, .ref q2, .ref q3, .ref q4, .int 0, .int 0, .int 0, .ref q5, .int 0, .ref q6, .int 0, .int 0, .int 0, .int 0, .int 0, .int 0, .ref q7, .ref q8, .ref q9, .ref q10, .ref q11, .int 0, .int 0, .null, .int 0, .int 0, .int 0, .int 0, .null, .null, .int 0, .null, .null, .int 0, .int 0, .int 0, .null, .null, .null, .null])), (q1, .inl (c1, 43, .inl (fun _ => 0))), (q2, .inl (c2, 40, .inl (fun _ => 0))), (q3, .inl (c3, 40, .inl (fun _ => 0))), (q4, .inl (c4, 40, .inl (fun _ => 0))), (q5, .inl (c5, 120, .inl (fun _ => 0))), (q6, .inl (c6, 120, .inl (fun _ => 0))), (q7, .inl (c7, 6, .inl (fun _ => 0))), (q8, .inl (c8, 10, .inl (fun _ => 0))), (q9, .inl (c9, 1024, .inl (fun _ => 0))), (q10, .inl (c10, 8, .inl (fun _ => 0))), (q11, .inl (c11, 6, .inl (fun _ => 0))), (q12, .inl (c12, 5, .inl (fun _ => 0)))] [(c1, .int), (c2, .int), (c3, .int), (c4, .int), (c5, .int), (c6, .int), (c7, .int), (c8, .int), (c9, .int), (c10, .int), (c11, .int), (c12, .int)] 12 1462 _
  refine n_put  (h0 := h0) (fs := [.ref q1, .ref q2, .ref q3, .ref q4, .int 0, .int 0, .int 0, .ref q5, .int 0, .ref q6, .int 0, .int 0, .int 0, .int 0, .int 0, .int 0, .ref q7, .ref q8, .ref q9, .ref q10, .ref q11, .int 0, .int 0, .null, .int 0, .int 0, .int 0, .int 0, .null, .null, .int 0, .null, .null, .int 0, .int 0, .int 0, .null, .null, .null, .null]) (v := .ref q12) fl_RX11_43 rfl rfl rfl rfl (Nat.le_of_ble_eq_true rfl) d_M_new_97 ?_
  show N D m_M_new (nrm 2 20 2016) 20 2016 100 [some (.ref h0), none] [] [(h0, .inr (11, [.ref q1, .ref q2, .ref q3, .ref q4, .int 0, .int 0, .int 0, .ref q5, .int 0, .ref q6, .int 0, .int 0, .int 0, .int 0, .int 0, .int 0, .ref q7, .ref q8, .ref q9, .ref q10, .ref q11, .int 0, .int 0, .ref q12, .int 0, .int 0, .int 0, .int 0, .null, .null, .int 0, .null, .null, .int 0, .int 0, .int 0, .null, .null, .null, .null])), (q1, .inl (c1, 43, .inl (fun _ => 0))), (q2, .inl (c2, 40, .inl (fun _ => 0))), (q3, .inl (c3, 40, .inl (fun _ => 0))), (q4, .inl (c4, 40, .inl (fun _ => 0))), (q5, .inl (c5, 120, .inl (fun _ => 0))), (q6, .inl (c6, 120, .inl (fun _ => 0))), (q7, .inl (c7, 6, .inl (fun _ => 0))), (q8, .inl (c8, 10, .inl (fun _ => 0))), (q9, .inl (c9, 1024, .inl (fun _ => 0))), (q10, .inl (c10, 8, .inl (fun _ => 0))), (q11, .inl (c11, 6, .inl (fun _ => 0))), (q12, .inl (c12, 5, .inl (fun _ => 0)))] [(c1, .int), (c2, .int), (c3, .int), (c4, .int), (c5, .int), (c6, .int), (c7, .int), (c8, .int), (c9, .int), (c10, .int), (c11, .int), (c12, .int)] 12 1462 _
  refine n_aload_n (x := h0)  d_M_new_100 rfl ?_
  refine n_const  (v := (43 : Int32)) d_M_new_101 (Or.inr (Or.inl ⟨_, rfl, by decide, rfl⟩)) ?_
  refine n_newai  (n := (43 : Int32)) (N' := 43) w_141 d_M_new_103 (by decide) (by decide) (by decide) (Nat.le_of_ble_eq_true rfl) (Nat.le_of_ble_eq_true rfl) (fun q13 c13 => ?_)
  show N D m_M_new (nrm 2 20 2016) 20 2016 105 [some (.ref h0), none] [.ref q13, .ref h0] [(h0, .inr (11, [.ref q1, .ref q2, .ref q3, .ref q4, .int 0, .int 0, .int 0, .ref q5, .int 0, .ref q6, .int 0, .int 0, .int 0, .int 0, .int 0, .int 0, .ref q7, .ref q8, .ref q9, .ref q10, .ref q11, .int 0, .int 0, .ref q12, .int 0, .int 0, .int 0, .int 0, .null, .null, .int 0, .null, .null, .int 0, .int 0, .int 0, .null, .null, .null, .null])), (q1, .inl (c1, 43, .inl (fun _ => 0))), (q2, .inl (c2, 40, .inl (fun _ => 0))), (q3, .inl (c3, 40, .inl (fun _ => 0))), (q4, .inl (c4, 40, .inl (fun _ => 0))), (q5, .inl (c5, 120, .inl (fun _ => 0))), (q6, .inl (c6, 120, .inl (fun _ => 0))), (q7, .inl (c7, 6, .inl (fun _ => 0))), (q8, .inl (c8, 10, .inl (fun _ => 0))), (q9, .inl (c9, 1024, .inl (fun _ => 0))), (q10, .inl (c10, 8, .inl (fun _ => 0))), (q11, .inl (c11, 6, .inl (fun _ => 0))), (q12, .inl (c12, 5, .inl (fun _ => 0))), (q13, .inl (c13, 43, .inl (fun _ => 0)))] [(c1, .int), (c2, .int), (c3, .int), (c4, .int), (c5, .int), (c6, .int), (c7, .int), (c8, .int), (c9, .int), (c10, .int), (c11, .int), (c12, .int), (c13, .int)] 13 1505 _
  refine n_put  (h0 := h0) (fs := [.ref q1, .ref q2, .ref q3, .ref q4, .int 0, .int 0, .int 0, .ref q5, .int 0, .ref q6, .int 0, .int 0, .int 0, .int 0, .int 0, .int 0, .ref q7, .ref q8, .ref q9, .ref q10, .ref q11, .int 0, .int 0, .ref q12, .int 0, .int 0, .int 0, .int 0, .null, .null, .int 0, .null, .null, .int 0, .int 0, .int 0, .null, .null, .null, .null]) (v := .ref q13) fl_RX11_46 rfl rfl rfl rfl (Nat.le_of_ble_eq_true rfl) d_M_new_105 ?_
  show N D m_M_new (nrm 2 20 2016) 20 2016 108 [some (.ref h0), none] [] [(h0, .inr (11, [.ref q1, .ref q2, .ref q3, .ref q4, .int 0, .int 0, .int 0, .ref q5, .int 0, .ref q6, .int 0, .int 0, .int 0, .int 0, .int 0, .int 0, .ref q7, .ref q8, .ref q9, .ref q10, .ref q11, .int 0, .int 0, .ref q12, .int 0, .int 0, .int 0, .int 0, .ref q13, .null, .int 0, .null, .null, .int 0, .int 0, .int 0, .null, .null, .null, .null])), (q1, .inl (c1, 43, .inl (fun _ => 0))), (q2, .inl (c2, 40, .inl (fun _ => 0))), (q3, .inl (c3, 40, .inl (fun _ => 0))), (q4, .inl (c4, 40, .inl (fun _ => 0))), (q5, .inl (c5, 120, .inl (fun _ => 0))), (q6, .inl (c6, 120, .inl (fun _ => 0))), (q7, .inl (c7, 6, .inl (fun _ => 0))), (q8, .inl (c8, 10, .inl (fun _ => 0))), (q9, .inl (c9, 1024, .inl (fun _ => 0))), (q10, .inl (c10, 8, .inl (fun _ => 0))), (q11, .inl (c11, 6, .inl (fun _ => 0))), (q12, .inl (c12, 5, .inl (fun _ => 0))), (q13, .inl (c13, 43, .inl (fun _ => 0)))] [(c1, .int), (c2, .int), (c3, .int), (c4, .int), (c5, .int), (c6, .int), (c7, .int), (c8, .int), (c9, .int), (c10, .int), (c11, .int), (c12, .int), (c13, .int)] 13 1505 _
  refine n_aload_n (x := h0)  d_M_new_108 rfl ?_
  refine n_const  (v := (5 : Int32)) d_M_new_109 (Or.inl ⟨_, rfl, by decide, rfl⟩) ?_
  refine n_newai  (n := (5 : Int32)) (N' := 5) w_141 d_M_new_110 (by decide) (by decide) (by decide) (Nat.le_of_ble_eq_true rfl) (Nat.le_of_ble_eq_true rfl) (fun q14 c14 => ?_)
  show N D m_M_new (nrm 2 20 2016) 20 2016 112 [some (.ref h0), none] [.ref q14, .ref h0] [(h0, .inr (11, [.ref q1, .ref q2, .ref q3, .ref q4, .int 0, .int 0, .int 0, .ref q5, .int 0, .ref q6, .int 0, .int 0, .int 0, .int 0, .int 0, .int 0, .ref q7, .ref q8, .ref q9, .ref q10, .ref q11, .int 0, .int 0, .ref q12, .int 0, .int 0, .int 0, .int 0, .ref q13, .null, .int 0, .null, .null, .int 0, .int 0, .int 0, .null, .null, .null, .null])), (q1, .inl (c1, 43, .inl (fun _ => 0))), (q2, .inl (c2, 40, .inl (fun _ => 0))), (q3, .inl (c3, 40, .inl (fun _ => 0))), (q4, .inl (c4, 40, .inl (fun _ => 0))), (q5, .inl (c5, 120, .inl (fun _ => 0))), (q6, .inl (c6, 120, .inl (fun _ => 0))), (q7, .inl (c7, 6, .inl (fun _ => 0))), (q8, .inl (c8, 10, .inl (fun _ => 0))), (q9, .inl (c9, 1024, .inl (fun _ => 0))), (q10, .inl (c10, 8, .inl (fun _ => 0))), (q11, .inl (c11, 6, .inl (fun _ => 0))), (q12, .inl (c12, 5, .inl (fun _ => 0))), (q13, .inl (c13, 43, .inl (fun _ => 0))), (q14, .inl (c14, 5, .inl (fun _ => 0)))] [(c1, .int), (c2, .int), (c3, .int), (c4, .int), (c5, .int), (c6, .int), (c7, .int), (c8, .int), (c9, .int), (c10, .int), (c11, .int), (c12, .int), (c13, .int), (c14, .int)] 14 1510 _
  refine n_put  (h0 := h0) (fs := [.ref q1, .ref q2, .ref q3, .ref q4, .int 0, .int 0, .int 0, .ref q5, .int 0, .ref q6, .int 0, .int 0, .int 0, .int 0, .int 0, .int 0, .ref q7, .ref q8, .ref q9, .ref q10, .ref q11, .int 0, .int 0, .ref q12, .int 0, .int 0, .int 0, .int 0, .ref q13, .null, .int 0, .null, .null, .int 0, .int 0, .int 0, .null, .null, .null, .null]) (v := .ref q14) fl_RX11_49 rfl rfl rfl rfl (Nat.le_of_ble_eq_true rfl) d_M_new_112 ?_
  show N D m_M_new (nrm 2 20 2016) 20 2016 115 [some (.ref h0), none] [] [(h0, .inr (11, [.ref q1, .ref q2, .ref q3, .ref q4, .int 0, .int 0, .int 0, .ref q5, .int 0, .ref q6, .int 0, .int 0, .int 0, .int 0, .int 0, .int 0, .ref q7, .ref q8, .ref q9, .ref q10, .ref q11, .int 0, .int 0, .ref q12, .int 0, .int 0, .int 0, .int 0, .ref q13, .ref q14, .int 0, .null, .null, .int 0, .int 0, .int 0, .null, .null, .null, .null])), (q1, .inl (c1, 43, .inl (fun _ => 0))), (q2, .inl (c2, 40, .inl (fun _ => 0))), (q3, .inl (c3, 40, .inl (fun _ => 0))), (q4, .inl (c4, 40, .inl (fun _ => 0))), (q5, .inl (c5, 120, .inl (fun _ => 0))), (q6, .inl (c6, 120, .inl (fun _ => 0))), (q7, .inl (c7, 6, .inl (fun _ => 0))), (q8, .inl (c8, 10, .inl (fun _ => 0))), (q9, .inl (c9, 1024, .inl (fun _ => 0))), (q10, .inl (c10, 8, .inl (fun _ => 0))), (q11, .inl (c11, 6, .inl (fun _ => 0))), (q12, .inl (c12, 5, .inl (fun _ => 0))), (q13, .inl (c13, 43, .inl (fun _ => 0))), (q14, .inl (c14, 5, .inl (fun _ => 0)))] [(c1, .int), (c2, .int), (c3, .int), (c4, .int), (c5, .int), (c6, .int), (c7, .int), (c8, .int), (c9, .int), (c10, .int), (c11, .int), (c12, .int), (c13, .int), (c14, .int)] 14 1510 _
  refine n_aload_n (x := h0)  d_M_new_115 rfl ?_
  refine n_const  (v := (50 : Int32)) d_M_new_116 (Or.inr (Or.inl ⟨_, rfl, by decide, rfl⟩)) ?_
  refine n_newai  (n := (50 : Int32)) (N' := 50) w_141 d_M_new_118 (by decide) (by decide) (by decide) (Nat.le_of_ble_eq_true rfl) (Nat.le_of_ble_eq_true rfl) (fun q15 c15 => ?_)
  show N D m_M_new (nrm 2 20 2016) 20 2016 120 [some (.ref h0), none] [.ref q15, .ref h0] [(h0, .inr (11, [.ref q1, .ref q2, .ref q3, .ref q4, .int 0, .int 0, .int 0, .ref q5, .int 0, .ref q6, .int 0, .int 0, .int 0, .int 0, .int 0, .int 0, .ref q7, .ref q8, .ref q9, .ref q10, .ref q11, .int 0, .int 0, .ref q12, .int 0, .int 0, .int 0, .int 0, .ref q13, .ref q14, .int 0, .null, .null, .int 0, .int 0, .int 0, .null, .null, .null, .null])), (q1, .inl (c1, 43, .inl (fun _ => 0))), (q2, .inl (c2, 40, .inl (fun _ => 0))), (q3, .inl (c3, 40, .inl (fun _ => 0))), (q4, .inl (c4, 40, .inl (fun _ => 0))), (q5, .inl (c5, 120, .inl (fun _ => 0))), (q6, .inl (c6, 120, .inl (fun _ => 0))), (q7, .inl (c7, 6, .inl (fun _ => 0))), (q8, .inl (c8, 10, .inl (fun _ => 0))), (q9, .inl (c9, 1024, .inl (fun _ => 0))), (q10, .inl (c10, 8, .inl (fun _ => 0))), (q11, .inl (c11, 6, .inl (fun _ => 0))), (q12, .inl (c12, 5, .inl (fun _ => 0))), (q13, .inl (c13, 43, .inl (fun _ => 0))), (q14, .inl (c14, 5, .inl (fun _ => 0))), (q15, .inl (c15, 50, .inl (fun _ => 0)))] [(c1, .int), (c2, .int), (c3, .int), (c4, .int), (c5, .int), (c6, .int), (c7, .int), (c8, .int), (c9, .int), (c10, .int), (c11, .int), (c12, .int), (c13, .int), (c14, .int), (c15, .int)] 15 1560 _
  refine n_put  (h0 := h0) (fs := [.ref q1, .ref q2, .ref q3, .ref q4, .int 0, .int 0, .int 0, .ref q5, .int 0, .ref q6, .int 0, .int 0, .int 0, .int 0, .int 0, .int 0, .ref q7, .ref q8, .ref q9, .ref q10, .ref q11, .int 0, .int 0, .ref q12, .int 0, .int 0, .int 0, .int 0, .ref q13, .ref q14, .int 0, .null, .null, .int 0, .int 0, .int 0, .null, .null, .null, .null]) (v := .ref q15) fl_RX11_52 rfl rfl rfl rfl (Nat.le_of_ble_eq_true rfl) d_M_new_120 ?_
  show N D m_M_new (nrm 2 20 2016) 20 2016 123 [some (.ref h0), none] [] [(h0, .inr (11, [.ref q1, .ref q2, .ref q3, .ref q4, .int 0, .int 0, .int 0, .ref q5, .int 0, .ref q6, .int 0, .int 0, .int 0, .int 0, .int 0, .int 0, .ref q7, .ref q8, .ref q9, .ref q10, .ref q11, .int 0, .int 0, .ref q12, .int 0, .int 0, .int 0, .int 0, .ref q13, .ref q14, .int 0, .ref q15, .null, .int 0, .int 0, .int 0, .null, .null, .null, .null])), (q1, .inl (c1, 43, .inl (fun _ => 0))), (q2, .inl (c2, 40, .inl (fun _ => 0))), (q3, .inl (c3, 40, .inl (fun _ => 0))), (q4, .inl (c4, 40, .inl (fun _ => 0))), (q5, .inl (c5, 120, .inl (fun _ => 0))), (q6, .inl (c6, 120, .inl (fun _ => 0))), (q7, .inl (c7, 6, .inl (fun _ => 0))), (q8, .inl (c8, 10, .inl (fun _ => 0))), (q9, .inl (c9, 1024, .inl (fun _ => 0))), (q10, .inl (c10, 8, .inl (fun _ => 0))), (q11, .inl (c11, 6, .inl (fun _ => 0))), (q12, .inl (c12, 5, .inl (fun _ => 0))), (q13, .inl (c13, 43, .inl (fun _ => 0))), (q14, .inl (c14, 5, .inl (fun _ => 0))), (q15, .inl (c15, 50, .inl (fun _ => 0)))] [(c1, .int), (c2, .int), (c3, .int), (c4, .int), (c5, .int), (c6, .int), (c7, .int), (c8, .int), (c9, .int), (c10, .int), (c11, .int), (c12, .int), (c13, .int), (c14, .int), (c15, .int)] 15 1560 _
  refine n_aload_n (x := h0)  d_M_new_123 rfl ?_
  refine n_const  (v := (24 : Int32)) d_M_new_124 (Or.inr (Or.inl ⟨_, rfl, by decide, rfl⟩)) ?_
  refine n_newai  (n := (24 : Int32)) (N' := 24) w_141 d_M_new_126 (by decide) (by decide) (by decide) (Nat.le_of_ble_eq_true rfl) (Nat.le_of_ble_eq_true rfl) (fun q16 c16 => ?_)
  show N D m_M_new (nrm 2 20 2016) 20 2016 128 [some (.ref h0), none] [.ref q16, .ref h0] [(h0, .inr (11, [.ref q1, .ref q2, .ref q3, .ref q4, .int 0, .int 0, .int 0, .ref q5, .int 0, .ref q6, .int 0, .int 0, .int 0, .int 0, .int 0, .int 0, .ref q7, .ref q8, .ref q9, .ref q10, .ref q11, .int 0, .int 0, .ref q12, .int 0, .int 0, .int 0, .int 0, .ref q13, .ref q14, .int 0, .ref q15, .null, .int 0, .int 0, .int 0, .null, .null, .null, .null])), (q1, .inl (c1, 43, .inl (fun _ => 0))), (q2, .inl (c2, 40, .inl (fun _ => 0))), (q3, .inl (c3, 40, .inl (fun _ => 0))), (q4, .inl (c4, 40, .inl (fun _ => 0))), (q5, .inl (c5, 120, .inl (fun _ => 0))), (q6, .inl (c6, 120, .inl (fun _ => 0))), (q7, .inl (c7, 6, .inl (fun _ => 0))), (q8, .inl (c8, 10, .inl (fun _ => 0))), (q9, .inl (c9, 1024, .inl (fun _ => 0))), (q10, .inl (c10, 8, .inl (fun _ => 0))), (q11, .inl (c11, 6, .inl (fun _ => 0))), (q12, .inl (c12, 5, .inl (fun _ => 0))), (q13, .inl (c13, 43, .inl (fun _ => 0))), (q14, .inl (c14, 5, .inl (fun _ => 0))), (q15, .inl (c15, 50, .inl (fun _ => 0))), (q16, .inl (c16, 24, .inl (fun _ => 0)))] [(c1, .int), (c2, .int), (c3, .int), (c4, .int), (c5, .int), (c6, .int), (c7, .int), (c8, .int), (c9, .int), (c10, .int), (c11, .int), (c12, .int), (c13, .int), (c14, .int), (c15, .int), (c16, .int)] 16 1584 _
  refine n_put  (h0 := h0) (fs := [.ref q1, .ref q2, .ref q3, .ref q4, .int 0, .int 0, .int 0, .ref q5, .int 0, .ref q6, .int 0, .int 0, .int 0, .int 0, .int 0, .int 0, .ref q7, .ref q8, .ref q9, .ref q10, .ref q11, .int 0, .int 0, .ref q12, .int 0, .int 0, .int 0, .int 0, .ref q13, .ref q14, .int 0, .ref q15, .null, .int 0, .int 0, .int 0, .null, .null, .null, .null]) (v := .ref q16) fl_RX11_55 rfl rfl rfl rfl (Nat.le_of_ble_eq_true rfl) d_M_new_128 ?_
  show N D m_M_new (nrm 2 20 2016) 20 2016 131 [some (.ref h0), none] [] [(h0, .inr (11, [.ref q1, .ref q2, .ref q3, .ref q4, .int 0, .int 0, .int 0, .ref q5, .int 0, .ref q6, .int 0, .int 0, .int 0, .int 0, .int 0, .int 0, .ref q7, .ref q8, .ref q9, .ref q10, .ref q11, .int 0, .int 0, .ref q12, .int 0, .int 0, .int 0, .int 0, .ref q13, .ref q14, .int 0, .ref q15, .ref q16, .int 0, .int 0, .int 0, .null, .null, .null, .null])), (q1, .inl (c1, 43, .inl (fun _ => 0))), (q2, .inl (c2, 40, .inl (fun _ => 0))), (q3, .inl (c3, 40, .inl (fun _ => 0))), (q4, .inl (c4, 40, .inl (fun _ => 0))), (q5, .inl (c5, 120, .inl (fun _ => 0))), (q6, .inl (c6, 120, .inl (fun _ => 0))), (q7, .inl (c7, 6, .inl (fun _ => 0))), (q8, .inl (c8, 10, .inl (fun _ => 0))), (q9, .inl (c9, 1024, .inl (fun _ => 0))), (q10, .inl (c10, 8, .inl (fun _ => 0))), (q11, .inl (c11, 6, .inl (fun _ => 0))), (q12, .inl (c12, 5, .inl (fun _ => 0))), (q13, .inl (c13, 43, .inl (fun _ => 0))), (q14, .inl (c14, 5, .inl (fun _ => 0))), (q15, .inl (c15, 50, .inl (fun _ => 0))), (q16, .inl (c16, 24, .inl (fun _ => 0)))] [(c1, .int), (c2, .int), (c3, .int), (c4, .int), (c5, .int), (c6, .int), (c7, .int), (c8, .int), (c9, .int), (c10, .int), (c11, .int), (c12, .int), (c13, .int), (c14, .int), (c15, .int), (c16, .int)] 16 1584 _
  refine n_aload_n (x := h0)  d_M_new_131 rfl ?_
  refine n_const  (v := (6 : Int32)) d_M_new_132 (Or.inr (Or.inl ⟨_, rfl, by decide, rfl⟩)) ?_
  refine n_newai  (n := (6 : Int32)) (N' := 6) w_141 d_M_new_134 (by decide) (by decide) (by decide) (Nat.le_of_ble_eq_true rfl) (Nat.le_of_ble_eq_true rfl) (fun q17 c17 => ?_)
  show N D m_M_new (nrm 2 20 2016) 20 2016 136 [some (.ref h0), none] [.ref q17, .ref h0] [(h0, .inr (11, [.ref q1, .ref q2, .ref q3, .ref q4, .int 0, .int 0, .int 0, .ref q5, .int 0, .ref q6, .int 0, .int 0, .int 0, .int 0, .int 0, .int 0, .ref q7, .ref q8, .ref q9, .ref q10, .ref q11, .int 0, .int 0, .ref q12, .int 0, .int 0, .int 0, .int 0, .ref q13, .ref q14, .int 0, .ref q15, .ref q16, .int 0, .int 0, .int 0, .null, .null, .null, .null])), (q1, .inl (c1, 43, .inl (fun _ => 0))), (q2, .inl (c2, 40, .inl (fun _ => 0))), (q3, .inl (c3, 40, .inl (fun _ => 0))), (q4, .inl (c4, 40, .inl (fun _ => 0))), (q5, .inl (c5, 120, .inl (fun _ => 0))), (q6, .inl (c6, 120, .inl (fun _ => 0))), (q7, .inl (c7, 6, .inl (fun _ => 0))), (q8, .inl (c8, 10, .inl (fun _ => 0))), (q9, .inl (c9, 1024, .inl (fun _ => 0))), (q10, .inl (c10, 8, .inl (fun _ => 0))), (q11, .inl (c11, 6, .inl (fun _ => 0))), (q12, .inl (c12, 5, .inl (fun _ => 0))), (q13, .inl (c13, 43, .inl (fun _ => 0))), (q14, .inl (c14, 5, .inl (fun _ => 0))), (q15, .inl (c15, 50, .inl (fun _ => 0))), (q16, .inl (c16, 24, .inl (fun _ => 0))), (q17, .inl (c17, 6, .inl (fun _ => 0)))] [(c1, .int), (c2, .int), (c3, .int), (c4, .int), (c5, .int), (c6, .int), (c7, .int), (c8, .int), (c9, .int), (c10, .int), (c11, .int), (c12, .int), (c13, .int), (c14, .int), (c15, .int), (c16, .int), (c17, .int)] 17 1590 _
  refine n_put  (h0 := h0) (fs := [.ref q1, .ref q2, .ref q3, .ref q4, .int 0, .int 0, .int 0, .ref q5, .int 0, .ref q6, .int 0, .int 0, .int 0, .int 0, .int 0, .int 0, .ref q7, .ref q8, .ref q9, .ref q10, .ref q11, .int 0, .int 0, .ref q12, .int 0, .int 0, .int 0, .int 0, .ref q13, .ref q14, .int 0, .ref q15, .ref q16, .int 0, .int 0, .int 0, .null, .null, .null, .null]) (v := .ref q17) fl_RX11_58 rfl rfl rfl rfl (Nat.le_of_ble_eq_true rfl) d_M_new_136 ?_
  show N D m_M_new (nrm 2 20 2016) 20 2016 139 [some (.ref h0), none] [] [(h0, .inr (11, [.ref q1, .ref q2, .ref q3, .ref q4, .int 0, .int 0, .int 0, .ref q5, .int 0, .ref q6, .int 0, .int 0, .int 0, .int 0, .int 0, .int 0, .ref q7, .ref q8, .ref q9, .ref q10, .ref q11, .int 0, .int 0, .ref q12, .int 0, .int 0, .int 0, .int 0, .ref q13, .ref q14, .int 0, .ref q15, .ref q16, .int 0, .int 0, .int 0, .ref q17, .null, .null, .null])), (q1, .inl (c1, 43, .inl (fun _ => 0))), (q2, .inl (c2, 40, .inl (fun _ => 0))), (q3, .inl (c3, 40, .inl (fun _ => 0))), (q4, .inl (c4, 40, .inl (fun _ => 0))), (q5, .inl (c5, 120, .inl (fun _ => 0))), (q6, .inl (c6, 120, .inl (fun _ => 0))), (q7, .inl (c7, 6, .inl (fun _ => 0))), (q8, .inl (c8, 10, .inl (fun _ => 0))), (q9, .inl (c9, 1024, .inl (fun _ => 0))), (q10, .inl (c10, 8, .inl (fun _ => 0))), (q11, .inl (c11, 6, .inl (fun _ => 0))), (q12, .inl (c12, 5, .inl (fun _ => 0))), (q13, .inl (c13, 43, .inl (fun _ => 0))), (q14, .inl (c14, 5, .inl (fun _ => 0))), (q15, .inl (c15, 50, .inl (fun _ => 0))), (q16, .inl (c16, 24, .inl (fun _ => 0))), (q17, .inl (c17, 6, .inl (fun _ => 0)))] [(c1, .int), (c2, .int), (c3, .int), (c4, .int), (c5, .int), (c6, .int), (c7, .int), (c8, .int), (c9, .int), (c10, .int), (c11, .int), (c12, .int), (c13, .int), (c14, .int), (c15, .int), (c16, .int), (c17, .int)] 17 1590 _
  refine n_aload_n (x := h0)  d_M_new_139 rfl ?_
  refine n_const  (v := (6 : Int32)) d_M_new_140 (Or.inr (Or.inl ⟨_, rfl, by decide, rfl⟩)) ?_
  refine n_newai  (n := (6 : Int32)) (N' := 6) w_141 d_M_new_142 (by decide) (by decide) (by decide) (Nat.le_of_ble_eq_true rfl) (Nat.le_of_ble_eq_true rfl) (fun q18 c18 => ?_)
  show N D m_M_new (nrm 2 20 2016) 20 2016 144 [some (.ref h0), none] [.ref q18, .ref h0] [(h0, .inr (11, [.ref q1, .ref q2, .ref q3, .ref q4, .int 0, .int 0, .int 0, .ref q5, .int 0, .ref q6, .int 0, .int 0, .int 0, .int 0, .int 0, .int 0, .ref q7, .ref q8, .ref q9, .ref q10, .ref q11, .int 0, .int 0, .ref q12, .int 0, .int 0, .int 0, .int 0, .ref q13, .ref q14, .int 0, .ref q15, .ref q16, .int 0, .int 0, .int 0, .ref q17, .null, .null, .null])), (q1, .inl (c1, 43, .inl (fun _ => 0))), (q2, .inl (c2, 40, .inl (fun _ => 0))), (q3, .inl (c3, 40, .inl (fun _ => 0))), (q4, .inl (c4, 40, .inl (fun _ => 0))), (q5, .inl (c5, 120, .inl (fun _ => 0))), (q6, .inl (c6, 120, .inl (fun _ => 0))), (q7, .inl (c7, 6, .inl (fun _ => 0))), (q8, .inl (c8, 10, .inl (fun _ => 0))), (q9, .inl (c9, 1024, .inl (fun _ => 0))), (q10, .inl (c10, 8, .inl (fun _ => 0))), (q11, .inl (c11, 6, .inl (fun _ => 0))), (q12, .inl (c12, 5, .inl (fun _ => 0))), (q13, .inl (c13, 43, .inl (fun _ => 0))), (q14, .inl (c14, 5, .inl (fun _ => 0))), (q15, .inl (c15, 50, .inl (fun _ => 0))), (q16, .inl (c16, 24, .inl (fun _ => 0))), (q17, .inl (c17, 6, .inl (fun _ => 0))), (q18, .inl (c18, 6, .inl (fun _ => 0)))] [(c1, .int), (c2, .int), (c3, .int), (c4, .int), (c5, .int), (c6, .int), (c7, .int), (c8, .int), (c9, .int), (c10, .int), (c11, .int), (c12, .int), (c13, .int), (c14, .int), (c15, .int), (c16, .int), (c17, .int), (c18, .int)] 18 1596 _
  refine n_put  (h0 := h0) (fs := [.ref q1, .ref q2, .ref q3, .ref q4, .int 0, .int 0, .int 0, .ref q5, .int 0, .ref q6, .int 0, .int 0, .int 0, .int 0, .int 0, .int 0, .ref q7, .ref q8, .ref q9, .ref q10, .ref q11, .int 0, .int 0, .ref q12, .int 0, .int 0, .int 0, .int 0, .ref q13, .ref q14, .int 0, .ref q15, .ref q16, .int 0, .int 0, .int 0, .ref q17, .null, .null, .null]) (v := .ref q18) fl_RX11_61 rfl rfl rfl rfl (Nat.le_of_ble_eq_true rfl) d_M_new_144 ?_
  show N D m_M_new (nrm 2 20 2016) 20 2016 147 [some (.ref h0), none] [] [(h0, .inr (11, [.ref q1, .ref q2, .ref q3, .ref q4, .int 0, .int 0, .int 0, .ref q5, .int 0, .ref q6, .int 0, .int 0, .int 0, .int 0, .int 0, .int 0, .ref q7, .ref q8, .ref q9, .ref q10, .ref q11, .int 0, .int 0, .ref q12, .int 0, .int 0, .int 0, .int 0, .ref q13, .ref q14, .int 0, .ref q15, .ref q16, .int 0, .int 0, .int 0, .ref q17, .ref q18, .null, .null])), (q1, .inl (c1, 43, .inl (fun _ => 0))), (q2, .inl (c2, 40, .inl (fun _ => 0))), (q3, .inl (c3, 40, .inl (fun _ => 0))), (q4, .inl (c4, 40, .inl (fun _ => 0))), (q5, .inl (c5, 120, .inl (fun _ => 0))), (q6, .inl (c6, 120, .inl (fun _ => 0))), (q7, .inl (c7, 6, .inl (fun _ => 0))), (q8, .inl (c8, 10, .inl (fun _ => 0))), (q9, .inl (c9, 1024, .inl (fun _ => 0))), (q10, .inl (c10, 8, .inl (fun _ => 0))), (q11, .inl (c11, 6, .inl (fun _ => 0))), (q12, .inl (c12, 5, .inl (fun _ => 0))), (q13, .inl (c13, 43, .inl (fun _ => 0))), (q14, .inl (c14, 5, .inl (fun _ => 0))), (q15, .inl (c15, 50, .inl (fun _ => 0))), (q16, .inl (c16, 24, .inl (fun _ => 0))), (q17, .inl (c17, 6, .inl (fun _ => 0))), (q18, .inl (c18, 6, .inl (fun _ => 0)))] [(c1, .int), (c2, .int), (c3, .int), (c4, .int), (c5, .int), (c6, .int), (c7, .int), (c8, .int), (c9, .int), (c10, .int), (c11, .int), (c12, .int), (c13, .int), (c14, .int), (c15, .int), (c16, .int), (c17, .int), (c18, .int)] 18 1596 _
  refine n_aload_n (x := h0)  d_M_new_147 rfl ?_
  refine n_const  (v := (360 : Int32)) d_M_new_148 (Or.inr (Or.inr ⟨_, rfl, by decide, rfl⟩)) ?_
  refine n_newal  (n := (360 : Int32)) (N' := 360) w_429 d_M_new_151 (by decide) (by decide) (by decide) (Nat.le_of_ble_eq_true rfl) (Nat.le_of_ble_eq_true rfl) (fun q19 c19 => ?_)
  show N D m_M_new (nrm 2 20 2016) 20 2016 153 [some (.ref h0), none] [.ref q19, .ref h0] [(h0, .inr (11, [.ref q1, .ref q2, .ref q3, .ref q4, .int 0, .int 0, .int 0, .ref q5, .int 0, .ref q6, .int 0, .int 0, .int 0, .int 0, .int 0, .int 0, .ref q7, .ref q8, .ref q9, .ref q10, .ref q11, .int 0, .int 0, .ref q12, .int 0, .int 0, .int 0, .int 0, .ref q13, .ref q14, .int 0, .ref q15, .ref q16, .int 0, .int 0, .int 0, .ref q17, .ref q18, .null, .null])), (q1, .inl (c1, 43, .inl (fun _ => 0))), (q2, .inl (c2, 40, .inl (fun _ => 0))), (q3, .inl (c3, 40, .inl (fun _ => 0))), (q4, .inl (c4, 40, .inl (fun _ => 0))), (q5, .inl (c5, 120, .inl (fun _ => 0))), (q6, .inl (c6, 120, .inl (fun _ => 0))), (q7, .inl (c7, 6, .inl (fun _ => 0))), (q8, .inl (c8, 10, .inl (fun _ => 0))), (q9, .inl (c9, 1024, .inl (fun _ => 0))), (q10, .inl (c10, 8, .inl (fun _ => 0))), (q11, .inl (c11, 6, .inl (fun _ => 0))), (q12, .inl (c12, 5, .inl (fun _ => 0))), (q13, .inl (c13, 43, .inl (fun _ => 0))), (q14, .inl (c14, 5, .inl (fun _ => 0))), (q15, .inl (c15, 50, .inl (fun _ => 0))), (q16, .inl (c16, 24, .inl (fun _ => 0))), (q17, .inl (c17, 6, .inl (fun _ => 0))), (q18, .inl (c18, 6, .inl (fun _ => 0))), (q19, .inl (c19, 360, .inr (.inl (fun _ => 0))))] [(c1, .int), (c2, .int), (c3, .int), (c4, .int), (c5, .int), (c6, .int), (c7, .int), (c8, .int), (c9, .int), (c10, .int), (c11, .int), (c12, .int), (c13, .int), (c14, .int), (c15, .int), (c16, .int), (c17, .int), (c18, .int), (c19, .long)] 19 1956 _
  refine n_put  (h0 := h0) (fs := [.ref q1, .ref q2, .ref q3, .ref q4, .int 0, .int 0, .int 0, .ref q5, .int 0, .ref q6, .int 0, .int 0, .int 0, .int 0, .int 0, .int 0, .ref q7, .ref q8, .ref q9, .ref q10, .ref q11, .int 0, .int 0, .ref q12, .int 0, .int 0, .int 0, .int 0, .ref q13, .ref q14, .int 0, .ref q15, .ref q16, .int 0, .int 0, .int 0, .ref q17, .ref q18, .null, .null]) (v := .ref q19) fl_RX11_64 rfl rfl rfl rfl (Nat.le_of_ble_eq_true rfl) d_M_new_153 ?_
  show N D m_M_new (nrm 2 20 2016) 20 2016 156 [some (.ref h0), none] [] [(h0, .inr (11, [.ref q1, .ref q2, .ref q3, .ref q4, .int 0, .int 0, .int 0, .ref q5, .int 0, .ref q6, .int 0, .int 0, .int 0, .int 0, .int 0, .int 0, .ref q7, .ref q8, .ref q9, .ref q10, .ref q11, .int 0, .int 0, .ref q12, .int 0, .int 0, .int 0, .int 0, .ref q13, .ref q14, .int 0, .ref q15, .ref q16, .int 0, .int 0, .int 0, .ref q17, .ref q18, .ref q19, .null])), (q1, .inl (c1, 43, .inl (fun _ => 0))), (q2, .inl (c2, 40, .inl (fun _ => 0))), (q3, .inl (c3, 40, .inl (fun _ => 0))), (q4, .inl (c4, 40, .inl (fun _ => 0))), (q5, .inl (c5, 120, .inl (fun _ => 0))), (q6, .inl (c6, 120, .inl (fun _ => 0))), (q7, .inl (c7, 6, .inl (fun _ => 0))), (q8, .inl (c8, 10, .inl (fun _ => 0))), (q9, .inl (c9, 1024, .inl (fun _ => 0))), (q10, .inl (c10, 8, .inl (fun _ => 0))), (q11, .inl (c11, 6, .inl (fun _ => 0))), (q12, .inl (c12, 5, .inl (fun _ => 0))), (q13, .inl (c13, 43, .inl (fun _ => 0))), (q14, .inl (c14, 5, .inl (fun _ => 0))), (q15, .inl (c15, 50, .inl (fun _ => 0))), (q16, .inl (c16, 24, .inl (fun _ => 0))), (q17, .inl (c17, 6, .inl (fun _ => 0))), (q18, .inl (c18, 6, .inl (fun _ => 0))), (q19, .inl (c19, 360, .inr (.inl (fun _ => 0))))] [(c1, .int), (c2, .int), (c3, .int), (c4, .int), (c5, .int), (c6, .int), (c7, .int), (c8, .int), (c9, .int), (c10, .int), (c11, .int), (c12, .int), (c13, .int), (c14, .int), (c15, .int), (c16, .int), (c17, .int), (c18, .int), (c19, .long)] 19 1956 _
  refine n_aload_n (x := h0)  d_M_new_156 rfl ?_
  refine n_const  (v := (60 : Int32)) d_M_new_157 (Or.inr (Or.inl ⟨_, rfl, by decide, rfl⟩)) ?_
  refine n_newal  (n := (60 : Int32)) (N' := 60) w_429 d_M_new_159 (by decide) (by decide) (by decide) (Nat.le_of_ble_eq_true rfl) (Nat.le_of_ble_eq_true rfl) (fun q20 c20 => ?_)
  show N D m_M_new (nrm 2 20 2016) 20 2016 161 [some (.ref h0), none] [.ref q20, .ref h0] [(h0, .inr (11, [.ref q1, .ref q2, .ref q3, .ref q4, .int 0, .int 0, .int 0, .ref q5, .int 0, .ref q6, .int 0, .int 0, .int 0, .int 0, .int 0, .int 0, .ref q7, .ref q8, .ref q9, .ref q10, .ref q11, .int 0, .int 0, .ref q12, .int 0, .int 0, .int 0, .int 0, .ref q13, .ref q14, .int 0, .ref q15, .ref q16, .int 0, .int 0, .int 0, .ref q17, .ref q18, .ref q19, .null])), (q1, .inl (c1, 43, .inl (fun _ => 0))), (q2, .inl (c2, 40, .inl (fun _ => 0))), (q3, .inl (c3, 40, .inl (fun _ => 0))), (q4, .inl (c4, 40, .inl (fun _ => 0))), (q5, .inl (c5, 120, .inl (fun _ => 0))), (q6, .inl (c6, 120, .inl (fun _ => 0))), (q7, .inl (c7, 6, .inl (fun _ => 0))), (q8, .inl (c8, 10, .inl (fun _ => 0))), (q9, .inl (c9, 1024, .inl (fun _ => 0))), (q10, .inl (c10, 8, .inl (fun _ => 0))), (q11, .inl (c11, 6, .inl (fun _ => 0))), (q12, .inl (c12, 5, .inl (fun _ => 0))), (q13, .inl (c13, 43, .inl (fun _ => 0))), (q14, .inl (c14, 5, .inl (fun _ => 0))), (q15, .inl (c15, 50, .inl (fun _ => 0))), (q16, .inl (c16, 24, .inl (fun _ => 0))), (q17, .inl (c17, 6, .inl (fun _ => 0))), (q18, .inl (c18, 6, .inl (fun _ => 0))), (q19, .inl (c19, 360, .inr (.inl (fun _ => 0)))), (q20, .inl (c20, 60, .inr (.inl (fun _ => 0))))] [(c1, .int), (c2, .int), (c3, .int), (c4, .int), (c5, .int), (c6, .int), (c7, .int), (c8, .int), (c9, .int), (c10, .int), (c11, .int), (c12, .int), (c13, .int), (c14, .int), (c15, .int), (c16, .int), (c17, .int), (c18, .int), (c19, .long), (c20, .long)] 20 2016 _
  refine n_put  (h0 := h0) (fs := [.ref q1, .ref q2, .ref q3, .ref q4, .int 0, .int 0, .int 0, .ref q5, .int 0, .ref q6, .int 0, .int 0, .int 0, .int 0, .int 0, .int 0, .ref q7, .ref q8, .ref q9, .ref q10, .ref q11, .int 0, .int 0, .ref q12, .int 0, .int 0, .int 0, .int 0, .ref q13, .ref q14, .int 0, .ref q15, .ref q16, .int 0, .int 0, .int 0, .ref q17, .ref q18, .ref q19, .null]) (v := .ref q20) fl_RX11_68 rfl rfl rfl rfl (Nat.le_of_ble_eq_true rfl) d_M_new_161 ?_
  show N D m_M_new (nrm 2 20 2016) 20 2016 164 [some (.ref h0), none] [] [(h0, .inr (11, [.ref q1, .ref q2, .ref q3, .ref q4, .int 0, .int 0, .int 0, .ref q5, .int 0, .ref q6, .int 0, .int 0, .int 0, .int 0, .int 0, .int 0, .ref q7, .ref q8, .ref q9, .ref q10, .ref q11, .int 0, .int 0, .ref q12, .int 0, .int 0, .int 0, .int 0, .ref q13, .ref q14, .int 0, .ref q15, .ref q16, .int 0, .int 0, .int 0, .ref q17, .ref q18, .ref q19, .ref q20])), (q1, .inl (c1, 43, .inl (fun _ => 0))), (q2, .inl (c2, 40, .inl (fun _ => 0))), (q3, .inl (c3, 40, .inl (fun _ => 0))), (q4, .inl (c4, 40, .inl (fun _ => 0))), (q5, .inl (c5, 120, .inl (fun _ => 0))), (q6, .inl (c6, 120, .inl (fun _ => 0))), (q7, .inl (c7, 6, .inl (fun _ => 0))), (q8, .inl (c8, 10, .inl (fun _ => 0))), (q9, .inl (c9, 1024, .inl (fun _ => 0))), (q10, .inl (c10, 8, .inl (fun _ => 0))), (q11, .inl (c11, 6, .inl (fun _ => 0))), (q12, .inl (c12, 5, .inl (fun _ => 0))), (q13, .inl (c13, 43, .inl (fun _ => 0))), (q14, .inl (c14, 5, .inl (fun _ => 0))), (q15, .inl (c15, 50, .inl (fun _ => 0))), (q16, .inl (c16, 24, .inl (fun _ => 0))), (q17, .inl (c17, 6, .inl (fun _ => 0))), (q18, .inl (c18, 6, .inl (fun _ => 0))), (q19, .inl (c19, 360, .inr (.inl (fun _ => 0)))), (q20, .inl (c20, 60, .inr (.inl (fun _ => 0))))] [(c1, .int), (c2, .int), (c3, .int), (c4, .int), (c5, .int), (c6, .int), (c7, .int), (c8, .int), (c9, .int), (c10, .int), (c11, .int), (c12, .int), (c13, .int), (c14, .int), (c15, .int), (c16, .int), (c17, .int), (c18, .int), (c19, .long), (c20, .long)] 20 2016 _
  refine n_const  (v := (0 : Int32)) d_M_new_164 (Or.inl ⟨_, rfl, by decide, rfl⟩) ?_
  refine n_istore_n  (x := (0 : Int32)) (L2 := [some (.ref h0), some (.int (0 : Int32))]) d_M_new_165 (Nat.le_of_ble_eq_true rfl) rfl ?_
  refine n_iload_n (x := (0 : Int32))  d_M_new_166 rfl ?_
  refine n_const  (v := (6 : Int32)) d_M_new_167 (Or.inr (Or.inl ⟨_, rfl, by decide, rfl⟩)) ?_
  refine n_icmp_ge  (x := (0 : Int32)) (y := (6 : Int32)) d_M_new_169 rfl (fun h => absurd h (by decide)) (fun _ => ?_)
  refine n_aload_n (x := h0)  d_M_new_172 rfl ?_
  refine n_getr  (h0 := h0) (fs := [.ref q1, .ref q2, .ref q3, .ref q4, .int 0, .int 0, .int 0, .ref q5, .int 0, .ref q6, .int 0, .int 0, .int 0, .int 0, .int 0, .int 0, .ref q7, .ref q8, .ref q9, .ref q10, .ref q11, .int 0, .int 0, .ref q12, .int 0, .int 0, .int 0, .int 0, .ref q13, .ref q14, .int 0, .ref q15, .ref q16, .int 0, .int 0, .int 0, .ref q17, .ref q18, .ref q19, .ref q20]) (j := q17) fl_RX11_58 rfl rfl d_M_new_173 ?_
  refine n_iload_n (x := (0 : Int32))  d_M_new_176 rfl ?_
  refine n_const  (v := (-1 : Int32)) d_M_new_177 (Or.inl ⟨_, rfl, by decide, rfl⟩) ?_
  refine n_iast2  (i := (0 : Int32)) (x := (-1 : Int32)) (a := q17) (n := 6) 17 16 (g := (fun i => if i < 1 then (-1 : Int32) else 0)) rfl rfl (gix_in (by decide)) d_M_new_178 (by rw [show (fun _ => 0 : Nat → Int32) = (fun i => if i < 0 then (-1 : Int32) else 0) from funext (fun i => (if_neg (Nat.not_lt_zero i)).symm)]; exact upd_lt 0) ?_
  show N D m_M_new (nrm 2 20 2016) 20 2016 179 [some (.ref h0), some (.int (0 : Int32))] [] [(h0, .inr (11, [.ref q1, .ref q2, .ref q3, .ref q4, .int 0, .int 0, .int 0, .ref q5, .int 0, .ref q6, .int 0, .int 0, .int 0, .int 0, .int 0, .int 0, .ref q7, .ref q8, .ref q9, .ref q10, .ref q11, .int 0, .int 0, .ref q12, .int 0, .int 0, .int 0, .int 0, .ref q13, .ref q14, .int 0, .ref q15, .ref q16, .int 0, .int 0, .int 0, .ref q17, .ref q18, .ref q19, .ref q20])), (q1, .inl (c1, 43, .inl (fun _ => 0))), (q2, .inl (c2, 40, .inl (fun _ => 0))), (q3, .inl (c3, 40, .inl (fun _ => 0))), (q4, .inl (c4, 40, .inl (fun _ => 0))), (q5, .inl (c5, 120, .inl (fun _ => 0))), (q6, .inl (c6, 120, .inl (fun _ => 0))), (q7, .inl (c7, 6, .inl (fun _ => 0))), (q8, .inl (c8, 10, .inl (fun _ => 0))), (q9, .inl (c9, 1024, .inl (fun _ => 0))), (q10, .inl (c10, 8, .inl (fun _ => 0))), (q11, .inl (c11, 6, .inl (fun _ => 0))), (q12, .inl (c12, 5, .inl (fun _ => 0))), (q13, .inl (c13, 43, .inl (fun _ => 0))), (q14, .inl (c14, 5, .inl (fun _ => 0))), (q15, .inl (c15, 50, .inl (fun _ => 0))), (q16, .inl (c16, 24, .inl (fun _ => 0))), (q17, .inl (c17, 6, .inl (fun i => if i < 1 then (-1 : Int32) else 0))), (q18, .inl (c18, 6, .inl (fun _ => 0))), (q19, .inl (c19, 360, .inr (.inl (fun _ => 0)))), (q20, .inl (c20, 60, .inr (.inl (fun _ => 0))))] [(c1, .int), (c2, .int), (c3, .int), (c4, .int), (c5, .int), (c6, .int), (c7, .int), (c8, .int), (c9, .int), (c10, .int), (c11, .int), (c12, .int), (c13, .int), (c14, .int), (c15, .int), (c16, .int), (c17, .int), (c18, .int), (c19, .long), (c20, .long)] 20 2016 _
  refine n_iinc  (x := (0 : Int32)) (v := (1 : Int32)) (L2 := [some (.ref h0), some (.int (1 : Int32))]) d_M_new_179 rfl (by decide) (Nat.le_of_ble_eq_true rfl) rfl ?_
  refine n_goto  d_M_new_182 rfl ?_
  refine n_iload_n (x := (1 : Int32))  d_M_new_166 rfl ?_
  refine n_const  (v := (6 : Int32)) d_M_new_167 (Or.inr (Or.inl ⟨_, rfl, by decide, rfl⟩)) ?_
  refine n_icmp_ge  (x := (1 : Int32)) (y := (6 : Int32)) d_M_new_169 rfl (fun h => absurd h (by decide)) (fun _ => ?_)
  refine n_aload_n (x := h0)  d_M_new_172 rfl ?_
  refine n_getr  (h0 := h0) (fs := [.ref q1, .ref q2, .ref q3, .ref q4, .int 0, .int 0, .int 0, .ref q5, .int 0, .ref q6, .int 0, .int 0, .int 0, .int 0, .int 0, .int 0, .ref q7, .ref q8, .ref q9, .ref q10, .ref q11, .int 0, .int 0, .ref q12, .int 0, .int 0, .int 0, .int 0, .ref q13, .ref q14, .int 0, .ref q15, .ref q16, .int 0, .int 0, .int 0, .ref q17, .ref q18, .ref q19, .ref q20]) (j := q17) fl_RX11_58 rfl rfl d_M_new_173 ?_
  refine n_iload_n (x := (1 : Int32))  d_M_new_176 rfl ?_
  refine n_const  (v := (-1 : Int32)) d_M_new_177 (Or.inl ⟨_, rfl, by decide, rfl⟩) ?_
  refine n_iast2  (i := (1 : Int32)) (x := (-1 : Int32)) (a := q17) (n := 6) 17 16 (g := (fun i => if i < 2 then (-1 : Int32) else 0)) rfl rfl (gix_in (by decide)) d_M_new_178 (upd_lt 1) ?_
  show N D m_M_new (nrm 2 20 2016) 20 2016 179 [some (.ref h0), some (.int (1 : Int32))] [] [(h0, .inr (11, [.ref q1, .ref q2, .ref q3, .ref q4, .int 0, .int 0, .int 0, .ref q5, .int 0, .ref q6, .int 0, .int 0, .int 0, .int 0, .int 0, .int 0, .ref q7, .ref q8, .ref q9, .ref q10, .ref q11, .int 0, .int 0, .ref q12, .int 0, .int 0, .int 0, .int 0, .ref q13, .ref q14, .int 0, .ref q15, .ref q16, .int 0, .int 0, .int 0, .ref q17, .ref q18, .ref q19, .ref q20])), (q1, .inl (c1, 43, .inl (fun _ => 0))), (q2, .inl (c2, 40, .inl (fun _ => 0))), (q3, .inl (c3, 40, .inl (fun _ => 0))), (q4, .inl (c4, 40, .inl (fun _ => 0))), (q5, .inl (c5, 120, .inl (fun _ => 0))), (q6, .inl (c6, 120, .inl (fun _ => 0))), (q7, .inl (c7, 6, .inl (fun _ => 0))), (q8, .inl (c8, 10, .inl (fun _ => 0))), (q9, .inl (c9, 1024, .inl (fun _ => 0))), (q10, .inl (c10, 8, .inl (fun _ => 0))), (q11, .inl (c11, 6, .inl (fun _ => 0))), (q12, .inl (c12, 5, .inl (fun _ => 0))), (q13, .inl (c13, 43, .inl (fun _ => 0))), (q14, .inl (c14, 5, .inl (fun _ => 0))), (q15, .inl (c15, 50, .inl (fun _ => 0))), (q16, .inl (c16, 24, .inl (fun _ => 0))), (q17, .inl (c17, 6, .inl (fun i => if i < 2 then (-1 : Int32) else 0))), (q18, .inl (c18, 6, .inl (fun _ => 0))), (q19, .inl (c19, 360, .inr (.inl (fun _ => 0)))), (q20, .inl (c20, 60, .inr (.inl (fun _ => 0))))] [(c1, .int), (c2, .int), (c3, .int), (c4, .int), (c5, .int), (c6, .int), (c7, .int), (c8, .int), (c9, .int), (c10, .int), (c11, .int), (c12, .int), (c13, .int), (c14, .int), (c15, .int), (c16, .int), (c17, .int), (c18, .int), (c19, .long), (c20, .long)] 20 2016 _
  refine n_iinc  (x := (1 : Int32)) (v := (2 : Int32)) (L2 := [some (.ref h0), some (.int (2 : Int32))]) d_M_new_179 rfl (by decide) (Nat.le_of_ble_eq_true rfl) rfl ?_
  refine n_goto  d_M_new_182 rfl ?_
  refine n_iload_n (x := (2 : Int32))  d_M_new_166 rfl ?_
  refine n_const  (v := (6 : Int32)) d_M_new_167 (Or.inr (Or.inl ⟨_, rfl, by decide, rfl⟩)) ?_
  refine n_icmp_ge  (x := (2 : Int32)) (y := (6 : Int32)) d_M_new_169 rfl (fun h => absurd h (by decide)) (fun _ => ?_)
  refine n_aload_n (x := h0)  d_M_new_172 rfl ?_
  refine n_getr  (h0 := h0) (fs := [.ref q1, .ref q2, .ref q3, .ref q4, .int 0, .int 0, .int 0, .ref q5, .int 0, .ref q6, .int 0, .int 0, .int 0, .int 0, .int 0, .int 0, .ref q7, .ref q8, .ref q9, .ref q10, .ref q11, .int 0, .int 0, .ref q12, .int 0, .int 0, .int 0, .int 0, .ref q13, .ref q14, .int 0, .ref q15, .ref q16, .int 0, .int 0, .int 0, .ref q17, .ref q18, .ref q19, .ref q20]) (j := q17) fl_RX11_58 rfl rfl d_M_new_173 ?_
  refine n_iload_n (x := (2 : Int32))  d_M_new_176 rfl ?_
  refine n_const  (v := (-1 : Int32)) d_M_new_177 (Or.inl ⟨_, rfl, by decide, rfl⟩) ?_
  refine n_iast2  (i := (2 : Int32)) (x := (-1 : Int32)) (a := q17) (n := 6) 17 16 (g := (fun i => if i < 3 then (-1 : Int32) else 0)) rfl rfl (gix_in (by decide)) d_M_new_178 (upd_lt 2) ?_
  show N D m_M_new (nrm 2 20 2016) 20 2016 179 [some (.ref h0), some (.int (2 : Int32))] [] [(h0, .inr (11, [.ref q1, .ref q2, .ref q3, .ref q4, .int 0, .int 0, .int 0, .ref q5, .int 0, .ref q6, .int 0, .int 0, .int 0, .int 0, .int 0, .int 0, .ref q7, .ref q8, .ref q9, .ref q10, .ref q11, .int 0, .int 0, .ref q12, .int 0, .int 0, .int 0, .int 0, .ref q13, .ref q14, .int 0, .ref q15, .ref q16, .int 0, .int 0, .int 0, .ref q17, .ref q18, .ref q19, .ref q20])), (q1, .inl (c1, 43, .inl (fun _ => 0))), (q2, .inl (c2, 40, .inl (fun _ => 0))), (q3, .inl (c3, 40, .inl (fun _ => 0))), (q4, .inl (c4, 40, .inl (fun _ => 0))), (q5, .inl (c5, 120, .inl (fun _ => 0))), (q6, .inl (c6, 120, .inl (fun _ => 0))), (q7, .inl (c7, 6, .inl (fun _ => 0))), (q8, .inl (c8, 10, .inl (fun _ => 0))), (q9, .inl (c9, 1024, .inl (fun _ => 0))), (q10, .inl (c10, 8, .inl (fun _ => 0))), (q11, .inl (c11, 6, .inl (fun _ => 0))), (q12, .inl (c12, 5, .inl (fun _ => 0))), (q13, .inl (c13, 43, .inl (fun _ => 0))), (q14, .inl (c14, 5, .inl (fun _ => 0))), (q15, .inl (c15, 50, .inl (fun _ => 0))), (q16, .inl (c16, 24, .inl (fun _ => 0))), (q17, .inl (c17, 6, .inl (fun i => if i < 3 then (-1 : Int32) else 0))), (q18, .inl (c18, 6, .inl (fun _ => 0))), (q19, .inl (c19, 360, .inr (.inl (fun _ => 0)))), (q20, .inl (c20, 60, .inr (.inl (fun _ => 0))))] [(c1, .int), (c2, .int), (c3, .int), (c4, .int), (c5, .int), (c6, .int), (c7, .int), (c8, .int), (c9, .int), (c10, .int), (c11, .int), (c12, .int), (c13, .int), (c14, .int), (c15, .int), (c16, .int), (c17, .int), (c18, .int), (c19, .long), (c20, .long)] 20 2016 _
  refine n_iinc  (x := (2 : Int32)) (v := (3 : Int32)) (L2 := [some (.ref h0), some (.int (3 : Int32))]) d_M_new_179 rfl (by decide) (Nat.le_of_ble_eq_true rfl) rfl ?_
  refine n_goto  d_M_new_182 rfl ?_
  refine n_iload_n (x := (3 : Int32))  d_M_new_166 rfl ?_
  refine n_const  (v := (6 : Int32)) d_M_new_167 (Or.inr (Or.inl ⟨_, rfl, by decide, rfl⟩)) ?_
  refine n_icmp_ge  (x := (3 : Int32)) (y := (6 : Int32)) d_M_new_169 rfl (fun h => absurd h (by decide)) (fun _ => ?_)
  refine n_aload_n (x := h0)  d_M_new_172 rfl ?_
  refine n_getr  (h0 := h0) (fs := [.ref q1, .ref q2, .ref q3, .ref q4, .int 0, .int 0, .int 0, .ref q5, .int 0, .ref q6, .int 0, .int 0, .int 0, .int 0, .int 0, .int 0, .ref q7, .ref q8, .ref q9, .ref q10, .ref q11, .int 0, .int 0, .ref q12, .int 0, .int 0, .int 0, .int 0, .ref q13, .ref q14, .int 0, .ref q15, .ref q16, .int 0, .int 0, .int 0, .ref q17, .ref q18, .ref q19, .ref q20]) (j := q17) fl_RX11_58 rfl rfl d_M_new_173 ?_
  refine n_iload_n (x := (3 : Int32))  d_M_new_176 rfl ?_
  refine n_const  (v := (-1 : Int32)) d_M_new_177 (Or.inl ⟨_, rfl, by decide, rfl⟩) ?_
  refine n_iast2  (i := (3 : Int32)) (x := (-1 : Int32)) (a := q17) (n := 6) 17 16 (g := (fun i => if i < 4 then (-1 : Int32) else 0)) rfl rfl (gix_in (by decide)) d_M_new_178 (upd_lt 3) ?_
  show N D m_M_new (nrm 2 20 2016) 20 2016 179 [some (.ref h0), some (.int (3 : Int32))] [] [(h0, .inr (11, [.ref q1, .ref q2, .ref q3, .ref q4, .int 0, .int 0, .int 0, .ref q5, .int 0, .ref q6, .int 0, .int 0, .int 0, .int 0, .int 0, .int 0, .ref q7, .ref q8, .ref q9, .ref q10, .ref q11, .int 0, .int 0, .ref q12, .int 0, .int 0, .int 0, .int 0, .ref q13, .ref q14, .int 0, .ref q15, .ref q16, .int 0, .int 0, .int 0, .ref q17, .ref q18, .ref q19, .ref q20])), (q1, .inl (c1, 43, .inl (fun _ => 0))), (q2, .inl (c2, 40, .inl (fun _ => 0))), (q3, .inl (c3, 40, .inl (fun _ => 0))), (q4, .inl (c4, 40, .inl (fun _ => 0))), (q5, .inl (c5, 120, .inl (fun _ => 0))), (q6, .inl (c6, 120, .inl (fun _ => 0))), (q7, .inl (c7, 6, .inl (fun _ => 0))), (q8, .inl (c8, 10, .inl (fun _ => 0))), (q9, .inl (c9, 1024, .inl (fun _ => 0))), (q10, .inl (c10, 8, .inl (fun _ => 0))), (q11, .inl (c11, 6, .inl (fun _ => 0))), (q12, .inl (c12, 5, .inl (fun _ => 0))), (q13, .inl (c13, 43, .inl (fun _ => 0))), (q14, .inl (c14, 5, .inl (fun _ => 0))), (q15, .inl (c15, 50, .inl (fun _ => 0))), (q16, .inl (c16, 24, .inl (fun _ => 0))), (q17, .inl (c17, 6, .inl (fun i => if i < 4 then (-1 : Int32) else 0))), (q18, .inl (c18, 6, .inl (fun _ => 0))), (q19, .inl (c19, 360, .inr (.inl (fun _ => 0)))), (q20, .inl (c20, 60, .inr (.inl (fun _ => 0))))] [(c1, .int), (c2, .int), (c3, .int), (c4, .int), (c5, .int), (c6, .int), (c7, .int), (c8, .int), (c9, .int), (c10, .int), (c11, .int), (c12, .int), (c13, .int), (c14, .int), (c15, .int), (c16, .int), (c17, .int), (c18, .int), (c19, .long), (c20, .long)] 20 2016 _
  refine n_iinc  (x := (3 : Int32)) (v := (4 : Int32)) (L2 := [some (.ref h0), some (.int (4 : Int32))]) d_M_new_179 rfl (by decide) (Nat.le_of_ble_eq_true rfl) rfl ?_
  refine n_goto  d_M_new_182 rfl ?_
  refine n_iload_n (x := (4 : Int32))  d_M_new_166 rfl ?_
  refine n_const  (v := (6 : Int32)) d_M_new_167 (Or.inr (Or.inl ⟨_, rfl, by decide, rfl⟩)) ?_
  refine n_icmp_ge  (x := (4 : Int32)) (y := (6 : Int32)) d_M_new_169 rfl (fun h => absurd h (by decide)) (fun _ => ?_)
  refine n_aload_n (x := h0)  d_M_new_172 rfl ?_
  refine n_getr  (h0 := h0) (fs := [.ref q1, .ref q2, .ref q3, .ref q4, .int 0, .int 0, .int 0, .ref q5, .int 0, .ref q6, .int 0, .int 0, .int 0, .int 0, .int 0, .int 0, .ref q7, .ref q8, .ref q9, .ref q10, .ref q11, .int 0, .int 0, .ref q12, .int 0, .int 0, .int 0, .int 0, .ref q13, .ref q14, .int 0, .ref q15, .ref q16, .int 0, .int 0, .int 0, .ref q17, .ref q18, .ref q19, .ref q20]) (j := q17) fl_RX11_58 rfl rfl d_M_new_173 ?_
  refine n_iload_n (x := (4 : Int32))  d_M_new_176 rfl ?_
  refine n_const  (v := (-1 : Int32)) d_M_new_177 (Or.inl ⟨_, rfl, by decide, rfl⟩) ?_
  refine n_iast2  (i := (4 : Int32)) (x := (-1 : Int32)) (a := q17) (n := 6) 17 16 (g := (fun i => if i < 5 then (-1 : Int32) else 0)) rfl rfl (gix_in (by decide)) d_M_new_178 (upd_lt 4) ?_
  show N D m_M_new (nrm 2 20 2016) 20 2016 179 [some (.ref h0), some (.int (4 : Int32))] [] [(h0, .inr (11, [.ref q1, .ref q2, .ref q3, .ref q4, .int 0, .int 0, .int 0, .ref q5, .int 0, .ref q6, .int 0, .int 0, .int 0, .int 0, .int 0, .int 0, .ref q7, .ref q8, .ref q9, .ref q10, .ref q11, .int 0, .int 0, .ref q12, .int 0, .int 0, .int 0, .int 0, .ref q13, .ref q14, .int 0, .ref q15, .ref q16, .int 0, .int 0, .int 0, .ref q17, .ref q18, .ref q19, .ref q20])), (q1, .inl (c1, 43, .inl (fun _ => 0))), (q2, .inl (c2, 40, .inl (fun _ => 0))), (q3, .inl (c3, 40, .inl (fun _ => 0))), (q4, .inl (c4, 40, .inl (fun _ => 0))), (q5, .inl (c5, 120, .inl (fun _ => 0))), (q6, .inl (c6, 120, .inl (fun _ => 0))), (q7, .inl (c7, 6, .inl (fun _ => 0))), (q8, .inl (c8, 10, .inl (fun _ => 0))), (q9, .inl (c9, 1024, .inl (fun _ => 0))), (q10, .inl (c10, 8, .inl (fun _ => 0))), (q11, .inl (c11, 6, .inl (fun _ => 0))), (q12, .inl (c12, 5, .inl (fun _ => 0))), (q13, .inl (c13, 43, .inl (fun _ => 0))), (q14, .inl (c14, 5, .inl (fun _ => 0))), (q15, .inl (c15, 50, .inl (fun _ => 0))), (q16, .inl (c16, 24, .inl (fun _ => 0))), (q17, .inl (c17, 6, .inl (fun i => if i < 5 then (-1 : Int32) else 0))), (q18, .inl (c18, 6, .inl (fun _ => 0))), (q19, .inl (c19, 360, .inr (.inl (fun _ => 0)))), (q20, .inl (c20, 60, .inr (.inl (fun _ => 0))))] [(c1, .int), (c2, .int), (c3, .int), (c4, .int), (c5, .int), (c6, .int), (c7, .int), (c8, .int), (c9, .int), (c10, .int), (c11, .int), (c12, .int), (c13, .int), (c14, .int), (c15, .int), (c16, .int), (c17, .int), (c18, .int), (c19, .long), (c20, .long)] 20 2016 _
  refine n_iinc  (x := (4 : Int32)) (v := (5 : Int32)) (L2 := [some (.ref h0), some (.int (5 : Int32))]) d_M_new_179 rfl (by decide) (Nat.le_of_ble_eq_true rfl) rfl ?_
  refine n_goto  d_M_new_182 rfl ?_
  refine n_iload_n (x := (5 : Int32))  d_M_new_166 rfl ?_
  refine n_const  (v := (6 : Int32)) d_M_new_167 (Or.inr (Or.inl ⟨_, rfl, by decide, rfl⟩)) ?_
  refine n_icmp_ge  (x := (5 : Int32)) (y := (6 : Int32)) d_M_new_169 rfl (fun h => absurd h (by decide)) (fun _ => ?_)
  refine n_aload_n (x := h0)  d_M_new_172 rfl ?_
  refine n_getr  (h0 := h0) (fs := [.ref q1, .ref q2, .ref q3, .ref q4, .int 0, .int 0, .int 0, .ref q5, .int 0, .ref q6, .int 0, .int 0, .int 0, .int 0, .int 0, .int 0, .ref q7, .ref q8, .ref q9, .ref q10, .ref q11, .int 0, .int 0, .ref q12, .int 0, .int 0, .int 0, .int 0, .ref q13, .ref q14, .int 0, .ref q15, .ref q16, .int 0, .int 0, .int 0, .ref q17, .ref q18, .ref q19, .ref q20]) (j := q17) fl_RX11_58 rfl rfl d_M_new_173 ?_
  refine n_iload_n (x := (5 : Int32))  d_M_new_176 rfl ?_
  refine n_const  (v := (-1 : Int32)) d_M_new_177 (Or.inl ⟨_, rfl, by decide, rfl⟩) ?_
  refine n_iast2  (i := (5 : Int32)) (x := (-1 : Int32)) (a := q17) (n := 6) 17 16 (g := (fun i => if i < 6 then (-1 : Int32) else 0)) rfl rfl (gix_in (by decide)) d_M_new_178 (upd_lt 5) ?_
  show N D m_M_new (nrm 2 20 2016) 20 2016 179 [some (.ref h0), some (.int (5 : Int32))] [] [(h0, .inr (11, [.ref q1, .ref q2, .ref q3, .ref q4, .int 0, .int 0, .int 0, .ref q5, .int 0, .ref q6, .int 0, .int 0, .int 0, .int 0, .int 0, .int 0, .ref q7, .ref q8, .ref q9, .ref q10, .ref q11, .int 0, .int 0, .ref q12, .int 0, .int 0, .int 0, .int 0, .ref q13, .ref q14, .int 0, .ref q15, .ref q16, .int 0, .int 0, .int 0, .ref q17, .ref q18, .ref q19, .ref q20])), (q1, .inl (c1, 43, .inl (fun _ => 0))), (q2, .inl (c2, 40, .inl (fun _ => 0))), (q3, .inl (c3, 40, .inl (fun _ => 0))), (q4, .inl (c4, 40, .inl (fun _ => 0))), (q5, .inl (c5, 120, .inl (fun _ => 0))), (q6, .inl (c6, 120, .inl (fun _ => 0))), (q7, .inl (c7, 6, .inl (fun _ => 0))), (q8, .inl (c8, 10, .inl (fun _ => 0))), (q9, .inl (c9, 1024, .inl (fun _ => 0))), (q10, .inl (c10, 8, .inl (fun _ => 0))), (q11, .inl (c11, 6, .inl (fun _ => 0))), (q12, .inl (c12, 5, .inl (fun _ => 0))), (q13, .inl (c13, 43, .inl (fun _ => 0))), (q14, .inl (c14, 5, .inl (fun _ => 0))), (q15, .inl (c15, 50, .inl (fun _ => 0))), (q16, .inl (c16, 24, .inl (fun _ => 0))), (q17, .inl (c17, 6, .inl (fun i => if i < 6 then (-1 : Int32) else 0))), (q18, .inl (c18, 6, .inl (fun _ => 0))), (q19, .inl (c19, 360, .inr (.inl (fun _ => 0)))), (q20, .inl (c20, 60, .inr (.inl (fun _ => 0))))] [(c1, .int), (c2, .int), (c3, .int), (c4, .int), (c5, .int), (c6, .int), (c7, .int), (c8, .int), (c9, .int), (c10, .int), (c11, .int), (c12, .int), (c13, .int), (c14, .int), (c15, .int), (c16, .int), (c17, .int), (c18, .int), (c19, .long), (c20, .long)] 20 2016 _
  refine n_iinc  (x := (5 : Int32)) (v := (6 : Int32)) (L2 := [some (.ref h0), some (.int (6 : Int32))]) d_M_new_179 rfl (by decide) (Nat.le_of_ble_eq_true rfl) rfl ?_
  refine n_goto  d_M_new_182 rfl ?_
  refine n_iload_n (x := (6 : Int32))  d_M_new_166 rfl ?_
  refine n_const  (v := (6 : Int32)) d_M_new_167 (Or.inr (Or.inl ⟨_, rfl, by decide, rfl⟩)) ?_
  refine n_icmp_ge  (x := (6 : Int32)) (y := (6 : Int32)) d_M_new_169 rfl (fun _ => ?_) (fun h => absurd (by decide) h)
  refine n_aload_n (x := h0)  d_M_new_185 rfl ?_
  refine n_const  (v := (-1 : Int32)) d_M_new_186 (Or.inl ⟨_, rfl, by decide, rfl⟩) ?_
  refine n_put  (h0 := h0) (fs := [.ref q1, .ref q2, .ref q3, .ref q4, .int 0, .int 0, .int 0, .ref q5, .int 0, .ref q6, .int 0, .int 0, .int 0, .int 0, .int 0, .int 0, .ref q7, .ref q8, .ref q9, .ref q10, .ref q11, .int 0, .int 0, .ref q12, .int 0, .int 0, .int 0, .int 0, .ref q13, .ref q14, .int 0, .ref q15, .ref q16, .int 0, .int 0, .int 0, .ref q17, .ref q18, .ref q19, .ref q20]) (v := .int (-1 : Int32)) fl_RX11_71 rfl rfl rfl rfl (Nat.le_of_ble_eq_true rfl) d_M_new_187 ?_
  show N D m_M_new (nrm 2 20 2016) 20 2016 190 [some (.ref h0), some (.int (6 : Int32))] [] [(h0, .inr (11, [.ref q1, .ref q2, .ref q3, .ref q4, .int 0, .int 0, .int 0, .ref q5, .int 0, .ref q6, .int (-1 : Int32), .int 0, .int 0, .int 0, .int 0, .int 0, .ref q7, .ref q8, .ref q9, .ref q10, .ref q11, .int 0, .int 0, .ref q12, .int 0, .int 0, .int 0, .int 0, .ref q13, .ref q14, .int 0, .ref q15, .ref q16, .int 0, .int 0, .int 0, .ref q17, .ref q18, .ref q19, .ref q20])), (q1, .inl (c1, 43, .inl (fun _ => 0))), (q2, .inl (c2, 40, .inl (fun _ => 0))), (q3, .inl (c3, 40, .inl (fun _ => 0))), (q4, .inl (c4, 40, .inl (fun _ => 0))), (q5, .inl (c5, 120, .inl (fun _ => 0))), (q6, .inl (c6, 120, .inl (fun _ => 0))), (q7, .inl (c7, 6, .inl (fun _ => 0))), (q8, .inl (c8, 10, .inl (fun _ => 0))), (q9, .inl (c9, 1024, .inl (fun _ => 0))), (q10, .inl (c10, 8, .inl (fun _ => 0))), (q11, .inl (c11, 6, .inl (fun _ => 0))), (q12, .inl (c12, 5, .inl (fun _ => 0))), (q13, .inl (c13, 43, .inl (fun _ => 0))), (q14, .inl (c14, 5, .inl (fun _ => 0))), (q15, .inl (c15, 50, .inl (fun _ => 0))), (q16, .inl (c16, 24, .inl (fun _ => 0))), (q17, .inl (c17, 6, .inl (fun i => if i < 6 then (-1 : Int32) else 0))), (q18, .inl (c18, 6, .inl (fun _ => 0))), (q19, .inl (c19, 360, .inr (.inl (fun _ => 0)))), (q20, .inl (c20, 60, .inr (.inl (fun _ => 0))))] [(c1, .int), (c2, .int), (c3, .int), (c4, .int), (c5, .int), (c6, .int), (c7, .int), (c8, .int), (c9, .int), (c10, .int), (c11, .int), (c12, .int), (c13, .int), (c14, .int), (c15, .int), (c16, .int), (c17, .int), (c18, .int), (c19, .long), (c20, .long)] 20 2016 _
  refine n_ret  rfl (Nat.le_refl _) (Nat.le_refl _) (Nat.le_refl _) (Nat.le_refl _) d_M_new_190 ?_
  exact ⟨(fun k => ([h0, q1, q2, q3, q4, q5, q6, q7, q8, q9, q10, q11, q12, q13, q14, q15, q16, q17, q18, q19, q20] : List Nat).getD k 0), (fun k => ([0, c1, c2, c3, c4, c5, c6, c7, c8, c9, c10, c11, c12, c13, c14, c15, c16, c17, c18, c19, c20] : List ClassId).getD k 0), rfl, rfl, rfl⟩
