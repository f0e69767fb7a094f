/-! what the printed rows take -/
theorem gmem_p {ws : List Cond} (ps : List Nat) (hp : ws = ps.filterMap (fun i => lw_tbl[i]?)) (hg : ws.all goodWord = true) : ∀ w ∈ ws, w ∈ gtb := by
  intro w hw
  have h1 := List.all_eq_true.mp hg w hw
  rw [hp] at hw
  obtain ⟨i, -, hi⟩ := List.mem_filterMap.mp hw
  exact gt_in i hi h1
theorem gt_sg {t : List Cond} (ht : ∀ w ∈ t, w ∈ lw_tbl) {w : Cond} (i : Nat) (h : t[i]? = some w) (hg : goodWord w = true) : w ∈ gtb := List.mem_filter.mpr ⟨ht w (List.mem_of_getElem? h), hg⟩
theorem sg_1 : ∀ w ∈ tables_1_1, w ∈ lw_tbl := fun w hw => List.mem_append_right _ (List.mem_append_left _ hw)
theorem sg_2 : ∀ w ∈ tables_1_2, w ∈ lw_tbl := fun w hw => List.mem_append_right _ (List.mem_append_right _ (List.mem_append_left _ hw))
theorem sg_3 : ∀ w ∈ tables_1_3, w ∈ lw_tbl := fun w hw => List.mem_append_right _ (List.mem_append_right _ (List.mem_append_right _ (List.mem_append_left _ hw)))
theorem sg_4 : ∀ w ∈ tables_1_4, w ∈ lw_tbl := fun w hw => List.mem_append_right _ (List.mem_append_right _ (List.mem_append_right _ (List.mem_append_right _ (List.mem_append_left _ hw))))
theorem sg_5 : ∀ w ∈ tables_1_5, w ∈ lw_tbl := fun w hw => List.mem_append_right _ (List.mem_append_right _ (List.mem_append_right _ (List.mem_append_right _ (List.mem_append_right _ (List.mem_append_left _ hw)))))
theorem sg_6 : ∀ w ∈ tables_1_6, w ∈ lw_tbl := fun w hw => List.mem_append_right _ (List.mem_append_right _ (List.mem_append_right _ (List.mem_append_right _ (List.mem_append_right _ (List.mem_append_right _ (List.mem_append_left _ hw))))))
theorem sg_7 : ∀ w ∈ tables_1_7, w ∈ lw_tbl := fun w hw => List.mem_append_right _ (List.mem_append_right _ (List.mem_append_right _ (List.mem_append_right _ (List.mem_append_right _ (List.mem_append_right _ (List.mem_append_right _ (hw)))))))
theorem gcls_lt {c ci : Nat} (h : gcls c = some ci) : c < 80 := by
  obtain ⟨fs, hf⟩ := gcls_spec h
  exact (List.getElem?_eq_some_iff.mp hf).1
theorem gcls_all (ci : Nat) (P : Nat → Prop) [hP : DecidablePred P] (h : ∀ c, c < 80 → gcls c = some ci → P c) (c : Nat) (hc : gcls c = some ci) : P c := h c (gcls_lt hc) hc
theorem gra_46 : gra 46 = some [47, 49, 51, 53, 55, 57] := by decide +kernel
theorem gix_lt {i : Int32} {n : Nat} (h : gix i n = true) : i.toNatClampNeg < n := by
  have := gix_in h
  unfold vp_in at this
  omega
theorem gsh_get {i : Int32} (h : gix i 6 = true) : [47, 49, 51, 53, 55, 57][i.toNatClampNeg]? = some (gshc i) := by
  have h1 := gix_lt h
  unfold gshc
  generalize i.toNatClampNeg = k at h1 ⊢
  have : k = 0 ∨ k = 1 ∨ k = 2 ∨ k = 3 ∨ k = 4 ∨ k = 5 := by omega
  rcases this with rfl | rfl | rfl | rfl | rfl | rfl <;> rfl
theorem gsh_cls {i : Int32} (h : gix i 6 = true) : gcls (gshc i) = some 8 := by
  have h1 := gix_lt h
  unfold gshc
  generalize i.toNatClampNeg = k at h1 ⊢
  have : k = 0 ∨ k = 1 ∨ k = 2 ∨ k = 3 ∨ k = 4 ∨ k = 5 := by omega
  rcases this with rfl | rfl | rfl | rfl | rfl | rfl <;> decide +kernel
theorem vp_lit {i : Int32} {n : Nat} (h : gix i n = true) : vp_in i n := gix_in h
def gcpy (sp dp n : Int32) (n0 n1 : Nat) : Bool := !(decide (sp < 0)) && !(decide (dp < 0)) && !(decide (n < 0)) && decide (sp.toNatClampNeg + n.toNatClampNeg ≤ n0) && decide (dp.toNatClampNeg + n.toNatClampNeg ≤ n1)
theorem gcpy1 {sp dp n : Int32} {n0 n1 : Nat} (h : gcpy sp dp n n0 n1 = true) : ¬ sp < 0 := by simp [gcpy] at h; simp [h]
theorem gcpy2 {sp dp n : Int32} {n0 n1 : Nat} (h : gcpy sp dp n n0 n1 = true) : ¬ dp < 0 := by simp [gcpy] at h; simp [h]
theorem gcpy3 {sp dp n : Int32} {n0 n1 : Nat} (h : gcpy sp dp n n0 n1 = true) : ¬ n < 0 := by simp [gcpy] at h; simp [h]
theorem gcpy4 {sp dp n : Int32} {n0 n1 : Nat} (h : gcpy sp dp n n0 n1 = true) : sp.toNatClampNeg + n.toNatClampNeg ≤ n0 := by simp [gcpy] at h; simp [h]
theorem gcpy5 {sp dp n : Int32} {n0 n1 : Nat} (h : gcpy sp dp n n0 n1 = true) : dp.toNatClampNeg + n.toNatClampNeg ≤ n1 := by simp [gcpy] at h; simp [h]
abbrev tb_LEAST : List Int32 := [0, 0, 0, -1, 0, 0, 0]
abbrev tb_MOST : List Int32 := [7, 12, 99, 5, 5, 2, 99]
abbrev tb_ABOVE : List Int32 := [-1, 0, 0, 2, 1, 3, 0, 4]
abbrev tb_OWN : List Int32 := [1, 10, 11, 2, 20, 0, 0, 0, 0, 30, 0, 0, 0, 41, 40, 0, 0, 0, 50, 0, 0, 0, 0, 60, 70, 0, 0, 0, 0, 80, 0, 81]
abbrev q_LEAST : String × String × Nat × List Int32 := (RX3, "LEAST", 1000, tb_LEAST)
abbrev q_MOST : String × String × Nat × List Int32 := (RX3, "MOST", 1001, tb_MOST)
abbrev q_ABOVE : String × String × Nat × List Int32 := (RX9, "ABOVE", 1002, tb_ABOVE)
abbrev q_OWN : String × String × Nat × List Int32 := (RX9, "OWN", 1003, tb_OWN)
section SCalls
variable {α β : Type} {res : α → Option Value × gS} {M : gM} {d pc pc3 : Nat} {L : List (Option Value)} {st stk : List Value} {σ : gS} {o : Option α} {M2 : gM} {d2 : Nat} {vs : List Value}
theorem S.call_rI {b2 : Option Int32} {ko : Int32 → Option α} (hp : pc + 3 = pc3) (hc : C (rI σ) d2 M2 vs σ b2) (h : ∀ Q : Option Value → gS → Prop, Ct d2 M2 vs σ (fun r τ => G M d (pc + 3) L (r.toList ++ st) τ Q) → G M d pc L stk σ Q)
    (k : ∀ b : Int32, S res M d pc3 L (.int b :: st) σ (ko b)) : S res M d pc L stk σ (b2.bind ko) := by
  subst hp
  exact S.callG hc h k
theorem S.call_rJ {b2 : Option Int64} {ko : Int64 → Option α} (hp : pc + 3 = pc3) (hc : C (rJ σ) d2 M2 vs σ b2) (h : ∀ Q : Option Value → gS → Prop, Ct d2 M2 vs σ (fun r τ => G M d (pc + 3) L (r.toList ++ st) τ Q) → G M d pc L stk σ Q)
    (k : ∀ b : Int64, S res M d pc3 L (.long b :: st) σ (ko b)) : S res M d pc L stk σ (b2.bind ko) := by
  subst hp
  exact S.callG hc h k
theorem S.call_wI {b2 : Option (Int32 × gS)} {ko : Int32 × gS → Option α} (hp : pc + 3 = pc3) (hc : C wI d2 M2 vs σ b2) (h : ∀ Q : Option Value → gS → Prop, Ct d2 M2 vs σ (fun r τ => G M d (pc + 3) L (r.toList ++ st) τ Q) → G M d pc L stk σ Q)
    (k : ∀ b : Int32 × gS, S res M d pc3 L (.int b.1 :: st) b.2 (ko b)) : S res M d pc L stk σ (b2.bind ko) := by
  subst hp
  exact S.callG hc h k
theorem S.call_wJ {b2 : Option (Int64 × gS)} {ko : Int64 × gS → Option α} (hp : pc + 3 = pc3) (hc : C wJ d2 M2 vs σ b2) (h : ∀ Q : Option Value → gS → Prop, Ct d2 M2 vs σ (fun r τ => G M d (pc + 3) L (r.toList ++ st) τ Q) → G M d pc L stk σ Q)
    (k : ∀ b : Int64 × gS, S res M d pc3 L (.long b.1 :: st) b.2 (ko b)) : S res M d pc L stk σ (b2.bind ko) := by
  subst hp
  exact S.callG hc h k
theorem S.call_wV {b2 : Option gS} {ko : gS → Option α} (hp : pc + 3 = pc3) (hc : C wV d2 M2 vs σ b2) (h : ∀ Q : Option Value → gS → Prop, Ct d2 M2 vs σ (fun r τ => G M d (pc + 3) L (r.toList ++ st) τ Q) → G M d pc L stk σ Q)
    (k : ∀ τ : gS, S res M d pc3 L st τ (ko τ)) : S res M d pc L stk σ (b2.bind ko) := by
  subst hp
  exact S.callG hc h k
end SCalls

abbrev m_T_within : gM := (yX10_within, cX10_within, 2, some .boolean)
abbrev m_Isl_welcome : gM := (yX3_welcome, cX3_welcome, 4, some .int)
theorem ga_2 : gia 2 = some 10 := by decide +kernel
theorem ga_3 : gia 3 = some 10 := by decide +kernel
theorem ga_4 : gia 4 = some 10 := by decide +kernel
theorem ga_5 : gia 5 = some 10 := by decide +kernel
theorem uw_3 : ∀ w ∈ u_ws RX3 TX3 10, w ∈ gtb := gmem_p [173, 175, 177, 179, 181, 183, 185, 187, 189, 191] (by decide +kernel) (by decide +kernel)
theorem w_160 : (Cond.fieldLink "TwoAgree$Island" (34 : Nat) "TwoAgree$Island" "size" "I") ∈ gtb := gt_sg sg_1 85 (by decide +kernel) (by decide +kernel)
theorem fl_RX3_34 : gFL RX3 34 3 6 (tyX3 6) false := ⟨RX3, TX3, 10, tyX3, rfl, uw_3, tyX3_ok, nmX3, by decide, w_160, tyX3_ok 6 (by decide), rfl⟩
theorem gc_1_6 : gcf 1 3 6 = some none := by decide +kernel
theorem w_142 : (Cond.fieldLink "TwoAgree$Island" (9 : Nat) "TwoAgree$Island" "kin" "[I") ∈ gtb := gt_sg sg_1 67 (by decide +kernel) (by decide +kernel)
theorem fl_RX3_9 : gFL RX3 9 3 0 (tyX3 0) true := ⟨RX3, TX3, 10, tyX3, rfl, uw_3, tyX3_ok, nmX3, by decide, w_142, tyX3_ok 0 (by decide), rfl⟩
theorem gc_1_0 : gcf 1 3 0 = some (some 2) := by decide +kernel
theorem w_146 : (Cond.fieldLink "TwoAgree$Island" (15 : Nat) "TwoAgree$Island" "eye" "[I") ∈ gtb := gt_sg sg_1 71 (by decide +kernel) (by decide +kernel)
theorem fl_RX3_15 : gFL RX3 15 3 1 (tyX3 1) true := ⟨RX3, TX3, 10, tyX3, rfl, uw_3, tyX3_ok, nmX3, by decide, w_146, tyX3_ok 1 (by decide), rfl⟩
theorem gc_1_1 : gcf 1 3 1 = some (some 3) := by decide +kernel
theorem w_149 : (Cond.fieldLink "TwoAgree$Island" (18 : Nat) "TwoAgree$Island" "price" "[I") ∈ gtb := gt_sg sg_1 74 (by decide +kernel) (by decide +kernel)
theorem fl_RX3_18 : gFL RX3 18 3 2 (tyX3 2) true := ⟨RX3, TX3, 10, tyX3, rfl, uw_3, tyX3_ok, nmX3, by decide, w_149, tyX3_ok 2 (by decide), rfl⟩
theorem gc_1_2 : gcf 1 3 2 = some (some 4) := by decide +kernel
theorem w_152 : (Cond.fieldLink "TwoAgree$Island" (21 : Nat) "TwoAgree$Island" "bought" "[I") ∈ gtb := gt_sg sg_1 77 (by decide +kernel) (by decide +kernel)
theorem fl_RX3_21 : gFL RX3 21 3 3 (tyX3 3) true := ⟨RX3, TX3, 10, tyX3, rfl, uw_3, tyX3_ok, nmX3, by decide, w_152, tyX3_ok 3 (by decide), rfl⟩
theorem gc_1_3 : gcf 1 3 3 = some (some 5) := by decide +kernel
abbrev m_T_citizen : gM := (yX10_citizen, cX10_citizen, 2, some .int)
theorem w_464 : Cond.code m_T_within.1 m_T_within.2.1 m_T_within.2.2.1 m_T_within.2.2.2 ∈ gtb := gt_sg sg_2 149 (by decide +kernel) (by decide +kernel)
theorem w_76 : (Cond.initialized "TwoAgree") ∈ gtb := gt_sg sg_1 1 (by decide +kernel) (by decide +kernel)
theorem lb_T_within : gLB m_T_within 2 := ⟨w_464, w_76, by decide +kernel, by decide +kernel, by decide +kernel⟩
theorem w_463 : (Cond.static ({ cls := "TwoAgree", name := "within", desc := "(II)Z" } : MethodName)) ∈ gtb := gt_sg sg_2 148 (by decide +kernel) (by decide +kernel)
theorem w_462 : (Cond.methodLink "TwoAgree" (72 : Nat) ({ cls := "TwoAgree", name := "within", desc := "(II)Z" } : MethodName)) ∈ gtb := gt_sg sg_2 147 (by decide +kernel) (by decide +kernel)
theorem ls_RX10_72 : gLS RX10 72 m_T_within 2 := ⟨lb_T_within, w_462, w_463⟩
theorem uw_10 : ∀ w ∈ u_ws RX10 TX10 9, w ∈ gtb := gmem_p [439, 441, 443, 445, 447, 449, 451, 453, 455] (by decide +kernel) (by decide +kernel)
theorem w_430 : (Cond.fieldLink "TwoAgree" (10 : Nat) "TwoAgree" "island" "LTwoAgree$Island;") ∈ gtb := gt_sg sg_2 115 (by decide +kernel) (by decide +kernel)
theorem fl_RX10_10 : gFL RX10 10 10 0 (tyX10 0) true := ⟨RX10, TX10, 9, tyX10, rfl, uw_10, tyX10_ok, nmX10, by decide, w_430, tyX10_ok 0 (by decide), rfl⟩
theorem gc_0_0 : gcf 0 10 0 = some (some 1) := by decide +kernel
theorem w_468 : Cond.code m_Isl_welcome.1 m_Isl_welcome.2.1 m_Isl_welcome.2.2.1 m_Isl_welcome.2.2.2 ∈ gtb := gt_sg sg_2 153 (by decide +kernel) (by decide +kernel)
theorem w_77 : (Cond.initialized "TwoAgree$Island") ∈ gtb := gt_sg sg_1 2 (by decide +kernel) (by decide +kernel)
theorem lb_Isl_welcome : gLB m_Isl_welcome 3 := ⟨w_468, w_77, by decide +kernel, by decide +kernel, by decide +kernel⟩
theorem w_465 : (Cond.methodLink "TwoAgree" (76 : Nat) ({ cls := "TwoAgree$Island", name := "welcome", desc := "(III)I" } : MethodName)) ∈ gtb := gt_sg sg_2 150 (by decide +kernel) (by decide +kernel)
theorem w_466 : (Cond.instanceMethod ({ cls := "TwoAgree$Island", name := "welcome", desc := "(III)I" } : MethodName)) ∈ gtb := gt_sg sg_2 151 (by decide +kernel) (by decide +kernel)
theorem w_467 : (Cond.selects "TwoAgree$Island" ({ cls := "TwoAgree$Island", name := "welcome", desc := "(III)I" } : MethodName) ({ cls := "TwoAgree$Island", name := "welcome", desc := "(III)I" } : MethodName)) ∈ gtb := gt_sg sg_2 152 (by decide +kernel) (by decide +kernel)
theorem lv_RX10_76 : gLV RX10 76 m_Isl_welcome 3 := ⟨lb_Isl_welcome, w_465, w_466, w_467⟩
theorem gk_1 : gcls 1 = some 3 := by decide +kernel
abbrev m_Isl_takes : gM := (yX3_takes, cX3_takes, 2, some .boolean)
theorem w_493 : (Cond.fieldLink "TwoAgree$Island" (52 : Nat) "TwoAgree$Island" "MOST" "[I") ∈ gtb := gt_sg sg_2 178 (by decide +kernel) (by decide +kernel)
theorem ln_RX3_55 : gLSN RX3 55 m_T_within 2 := ⟨lb_T_within, ⟨"TwoAgree", List.mem_of_getElem? (i := 12) (by decide +kernel)⟩, w_463⟩
theorem w_496 : (Cond.fieldLink "TwoAgree$Island" (58 : Nat) "TwoAgree$Island" "LEAST" "[I") ∈ gtb := gt_sg sg_2 181 (by decide +kernel) (by decide +kernel)
abbrev m_Sh_has : gM := (yX8_has, cX8_has, 3, some .boolean)
theorem uw_8 : ∀ w ∈ u_ws RX8 TX8 5, w ∈ gtb := gmem_p [418, 420, 422, 424, 426] (by decide +kernel) (by decide +kernel)
theorem w_416 : (Cond.fieldLink "TwoAgree$Shelf" (31 : Nat) "TwoAgree$Shelf" "size" "I") ∈ gtb := gt_sg sg_2 101 (by decide +kernel) (by decide +kernel)
theorem fl_RX8_31 : gFL RX8 31 8 4 (tyX8 4) false := ⟨RX8, TX8, 5, tyX8, rfl, uw_8, tyX8_ok, nmX8, by decide, w_416, tyX8_ok 4 (by decide), rfl⟩
theorem gq_8_4 {c : Nat} (h : gcls c = some 8) : gcf c 8 4 = some none := gcls_all 8 (fun c => gcf c 8 4 = some none) (by decide +kernel) c h
abbrev m_Sh_small : gM := (yX8_small, cX8_small, 2, some .int)
theorem gp_8_0 {c : Nat} (h : gcls c = some 8) : gla (c + 1) = some 60 := gcls_all 8 (fun c => gla (c + 1) = some 60) (by decide +kernel) c h
theorem gq_8_0 {c : Nat} (h : gcls c = some 8) : gcf c 8 0 = some (some (c + 1)) := gcls_all 8 (fun c => gcf c 8 0 = some (some (c + 1))) (by decide +kernel) c h
theorem w_480 : Cond.code m_Sh_has.1 m_Sh_has.2.1 m_Sh_has.2.2.1 m_Sh_has.2.2.2 ∈ gtb := gt_sg sg_2 165 (by decide +kernel) (by decide +kernel)
theorem w_86 : (Cond.initialized "TwoAgree$Shelf") ∈ gtb := gt_sg sg_1 11 (by decide +kernel) (by decide +kernel)
theorem lb_Sh_has : gLB m_Sh_has 2 := ⟨w_480, w_86, by decide +kernel, by decide +kernel, by decide +kernel⟩
theorem w_489 : (Cond.methodLink "TwoAgree$Shelf" (34 : Nat) ({ cls := "TwoAgree$Shelf", name := "has", desc := "(II)Z" } : MethodName)) ∈ gtb := gt_sg sg_2 174 (by decide +kernel) (by decide +kernel)
theorem w_478 : (Cond.instanceMethod ({ cls := "TwoAgree$Shelf", name := "has", desc := "(II)Z" } : MethodName)) ∈ gtb := gt_sg sg_2 163 (by decide +kernel) (by decide +kernel)
theorem w_479 : (Cond.selects "TwoAgree$Shelf" ({ cls := "TwoAgree$Shelf", name := "has", desc := "(II)Z" } : MethodName) ({ cls := "TwoAgree$Shelf", name := "has", desc := "(II)Z" } : MethodName)) ∈ gtb := gt_sg sg_2 164 (by decide +kernel) (by decide +kernel)
theorem lv_RX8_34 : gLV RX8 34 m_Sh_has 2 := ⟨lb_Sh_has, w_489, w_478, w_479⟩
theorem w_408 : (Cond.fieldLink "TwoAgree$Shelf" (11 : Nat) "TwoAgree$Shelf" "cells" "[J") ∈ gtb := gt_sg sg_2 93 (by decide +kernel) (by decide +kernel)
theorem fl_RX8_11 : gFL RX8 11 8 0 (tyX8 0) true := ⟨RX8, TX8, 5, tyX8, rfl, uw_8, tyX8_ok, nmX8, by decide, w_408, tyX8_ok 0 (by decide), rfl⟩
abbrev m_Isl_welcomeThree : gM := (yX3_welcomeThree, cX3_welcomeThree, 4, some .int)
theorem w_488 : Cond.code m_Sh_small.1 m_Sh_small.2.1 m_Sh_small.2.2.1 m_Sh_small.2.2.2 ∈ gtb := gt_sg sg_2 173 (by decide +kernel) (by decide +kernel)
theorem lb_Sh_small : gLB m_Sh_small 1 := ⟨w_488, w_86, by decide +kernel, by decide +kernel, by decide +kernel⟩
theorem w_485 : (Cond.methodLink "TwoAgree$Island" (38 : Nat) ({ cls := "TwoAgree$Shelf", name := "small", desc := "(I)I" } : MethodName)) ∈ gtb := gt_sg sg_2 170 (by decide +kernel) (by decide +kernel)
theorem w_486 : (Cond.instanceMethod ({ cls := "TwoAgree$Shelf", name := "small", desc := "(I)I" } : MethodName)) ∈ gtb := gt_sg sg_2 171 (by decide +kernel) (by decide +kernel)
theorem w_487 : (Cond.selects "TwoAgree$Shelf" ({ cls := "TwoAgree$Shelf", name := "small", desc := "(I)I" } : MethodName) ({ cls := "TwoAgree$Shelf", name := "small", desc := "(I)I" } : MethodName)) ∈ gtb := gt_sg sg_2 172 (by decide +kernel) (by decide +kernel)
theorem lv_RX3_38 : gLV RX3 38 m_Sh_small 1 := ⟨lb_Sh_small, w_485, w_486, w_487⟩
theorem w_498 : (Cond.methodLink "TwoAgree$Island" (48 : Nat) ({ cls := "TwoAgree$Island", name := "welcome", desc := "(III)I" } : MethodName)) ∈ gtb := gt_sg sg_2 183 (by decide +kernel) (by decide +kernel)
theorem lv_RX3_48 : gLV RX3 48 m_Isl_welcome 3 := ⟨lb_Isl_welcome, w_498, w_466, w_467⟩
theorem w_492 : Cond.code m_Isl_takes.1 m_Isl_takes.2.1 m_Isl_takes.2.2.1 m_Isl_takes.2.2.2 ∈ gtb := gt_sg sg_2 177 (by decide +kernel) (by decide +kernel)
theorem lb_Isl_takes : gLB m_Isl_takes 2 := ⟨w_492, w_77, by decide +kernel, by decide +kernel, by decide +kernel⟩
theorem w_491 : (Cond.static ({ cls := "TwoAgree$Island", name := "takes", desc := "(II)Z" } : MethodName)) ∈ gtb := gt_sg sg_2 176 (by decide +kernel) (by decide +kernel)
theorem w_490 : (Cond.methodLink "TwoAgree$Island" (44 : Nat) ({ cls := "TwoAgree$Island", name := "takes", desc := "(II)Z" } : MethodName)) ∈ gtb := gt_sg sg_2 175 (by decide +kernel) (by decide +kernel)
theorem ls_RX3_44 : gLS RX3 44 m_Isl_takes 2 := ⟨lb_Isl_takes, w_490, w_491⟩
abbrev m_Sh_isOfBytes : gM := (yX8_isOfBytes, cX8_isOfBytes, 1, some .boolean)
theorem w_410 : (Cond.fieldLink "TwoAgree$Shelf" (15 : Nat) "TwoAgree$Shelf" "holds" "I") ∈ gtb := gt_sg sg_2 95 (by decide +kernel) (by decide +kernel)
theorem fl_RX8_15 : gFL RX8 15 8 1 (tyX8 1) false := ⟨RX8, TX8, 5, tyX8, rfl, uw_8, tyX8_ok, nmX8, by decide, w_410, tyX8_ok 1 (by decide), rfl⟩
theorem gq_8_1 {c : Nat} (h : gcls c = some 8) : gcf c 8 1 = some none := gcls_all 8 (fun c => gcf c 8 1 = some none) (by decide +kernel) c h
theorem w_414 : (Cond.fieldLink "TwoAgree$Shelf" (28 : Nat) "TwoAgree$Shelf" "sort" "I") ∈ gtb := gt_sg sg_2 99 (by decide +kernel) (by decide +kernel)
theorem fl_RX8_28 : gFL RX8 28 8 3 (tyX8 3) false := ⟨RX8, TX8, 5, tyX8, rfl, uw_8, tyX8_ok, nmX8, by decide, w_414, tyX8_ok 3 (by decide), rfl⟩
theorem gq_8_3 {c : Nat} (h : gcls c = some 8) : gcf c 8 3 = some none := gcls_all 8 (fun c => gcf c 8 3 = some none) (by decide +kernel) c h
abbrev m_T_citizens : gM := (yX10_citizens, cX10_citizens, 7, some .int)
theorem w_438 : (Cond.fieldLink "TwoAgree" (67 : Nat) "TwoAgree" "shelves" "[LTwoAgree$Shelf;") ∈ gtb := gt_sg sg_2 123 (by decide +kernel) (by decide +kernel)
theorem fl_RX10_67 : gFL RX10 67 10 8 (tyX10 8) true := ⟨RX10, TX10, 9, tyX10, rfl, uw_10, tyX10_ok, nmX10, by decide, w_438, tyX10_ok 8 (by decide), rfl⟩
theorem gc_0_8 : gcf 0 10 8 = some (some 46) := by decide +kernel
theorem w_411 : (Cond.fieldLink "TwoAgree" (80 : Nat) "TwoAgree$Shelf" "holds" "I") ∈ gtb := gt_sg sg_2 96 (by decide +kernel) (by decide +kernel)
theorem fl_RX10_80 : gFL RX10 80 8 1 (tyX8 1) false := ⟨RX8, TX8, 5, tyX8, rfl, uw_8, tyX8_ok, nmX8, by decide, w_411, tyX8_ok 1 (by decide), rfl⟩
theorem w_476 : Cond.code m_Sh_isOfBytes.1 m_Sh_isOfBytes.2.1 m_Sh_isOfBytes.2.2.1 m_Sh_isOfBytes.2.2.2 ∈ gtb := gt_sg sg_2 161 (by decide +kernel) (by decide +kernel)
theorem lb_Sh_isOfBytes : gLB m_Sh_isOfBytes 0 := ⟨w_476, w_86, by decide +kernel, by decide +kernel, by decide +kernel⟩
theorem w_473 : (Cond.methodLink "TwoAgree" (84 : Nat) ({ cls := "TwoAgree$Shelf", name := "isOfBytes", desc := "()Z" } : MethodName)) ∈ gtb := gt_sg sg_2 158 (by decide +kernel) (by decide +kernel)
theorem w_474 : (Cond.instanceMethod ({ cls := "TwoAgree$Shelf", name := "isOfBytes", desc := "()Z" } : MethodName)) ∈ gtb := gt_sg sg_2 159 (by decide +kernel) (by decide +kernel)
theorem w_475 : (Cond.selects "TwoAgree$Shelf" ({ cls := "TwoAgree$Shelf", name := "isOfBytes", desc := "()Z" } : MethodName) ({ cls := "TwoAgree$Shelf", name := "isOfBytes", desc := "()Z" } : MethodName)) ∈ gtb := gt_sg sg_2 160 (by decide +kernel) (by decide +kernel)
theorem lv_RX10_84 : gLV RX10 84 m_Sh_isOfBytes 0 := ⟨lb_Sh_isOfBytes, w_473, w_474, w_475⟩
theorem w_477 : (Cond.methodLink "TwoAgree" (88 : Nat) ({ cls := "TwoAgree$Shelf", name := "has", desc := "(II)Z" } : MethodName)) ∈ gtb := gt_sg sg_2 162 (by decide +kernel) (by decide +kernel)
theorem lv_RX10_88 : gLV RX10 88 m_Sh_has 2 := ⟨lb_Sh_has, w_477, w_478, w_479⟩
theorem w_484 : Cond.code m_Isl_welcomeThree.1 m_Isl_welcomeThree.2.1 m_Isl_welcomeThree.2.2.1 m_Isl_welcomeThree.2.2.2 ∈ gtb := gt_sg sg_2 169 (by decide +kernel) (by decide +kernel)
theorem lb_Isl_welcomeThree : gLB m_Isl_welcomeThree 2 := ⟨w_484, w_77, by decide +kernel, by decide +kernel, by decide +kernel⟩
theorem w_481 : (Cond.methodLink "TwoAgree" (91 : Nat) ({ cls := "TwoAgree$Island", name := "welcomeThree", desc := "(LTwoAgree$Shelf;I)I" } : MethodName)) ∈ gtb := gt_sg sg_2 166 (by decide +kernel) (by decide +kernel)
theorem w_482 : (Cond.instanceMethod ({ cls := "TwoAgree$Island", name := "welcomeThree", desc := "(LTwoAgree$Shelf;I)I" } : MethodName)) ∈ gtb := gt_sg sg_2 167 (by decide +kernel) (by decide +kernel)
theorem w_483 : (Cond.selects "TwoAgree$Island" ({ cls := "TwoAgree$Island", name := "welcomeThree", desc := "(LTwoAgree$Shelf;I)I" } : MethodName) ({ cls := "TwoAgree$Island", name := "welcomeThree", desc := "(LTwoAgree$Shelf;I)I" } : MethodName)) ∈ gtb := gt_sg sg_2 168 (by decide +kernel) (by decide +kernel)
theorem lv_RX10_91 : gLV RX10 91 m_Isl_welcomeThree 2 := ⟨lb_Isl_welcomeThree, w_481, w_482, w_483⟩
abbrev m_Ch_dropOldest : gM := (yX1_dropOldest, cX1_dropOldest, 1, none)
theorem ga_32 : gia 32 = some 40 := by decide +kernel
theorem ga_33 : gia 33 = some 40 := by decide +kernel
theorem ga_34 : gia 34 = some 40 := by decide +kernel
theorem ga_35 : gia 35 = some 40 := by decide +kernel
theorem uw_1 : ∀ w ∈ u_ws RX1 TX1 6, w ∈ gtb := gmem_p [316, 318, 320, 322, 324, 326] (by decide +kernel) (by decide +kernel)
theorem w_312 : (Cond.fieldLink "TwoAgree$Changes" (22 : Nat) "TwoAgree$Changes" "done" "I") ∈ gtb := gt_sg sg_1 237 (by decide +kernel) (by decide +kernel)
theorem fl_RX1_22 : gFL RX1 22 1 4 (tyX1 4) false := ⟨RX1, TX1, 6, tyX1, rfl, uw_1, tyX1_ok, nmX1, by decide, w_312, tyX1_ok 4 (by decide), rfl⟩
theorem gc_31_4 : gcf 31 1 4 = some none := by decide +kernel
theorem w_308 : (Cond.fieldLink "TwoAgree$Changes" (9 : Nat) "TwoAgree$Changes" "numbers" "[I") ∈ gtb := gt_sg sg_1 233 (by decide +kernel) (by decide +kernel)
theorem fl_RX1_9 : gFL RX1 9 1 0 (tyX1 0) true := ⟨RX1, TX1, 6, tyX1, rfl, uw_1, tyX1_ok, nmX1, by decide, w_308, tyX1_ok 0 (by decide), rfl⟩
theorem gc_31_0 : gcf 31 1 0 = some (some 32) := by decide +kernel
theorem gMcp_ok : ∀ w ∈ gMcp, w ∈ gtb := gmem_p [525, 524, 88] (by decide +kernel) (by decide +kernel)
theorem w_523 : (Cond.methodLink "TwoAgree$Changes" (32 : Nat) ({ cls := "java/lang/System", name := "arraycopy", desc := "(Ljava/lang/Object;ILjava/lang/Object;II)V" } : MethodName)) ∈ gtb := gt_sg sg_2 208 (by decide +kernel) (by decide +kernel)
theorem w_309 : (Cond.fieldLink "TwoAgree$Changes" (13 : Nat) "TwoAgree$Changes" "whats" "[I") ∈ gtb := gt_sg sg_1 234 (by decide +kernel) (by decide +kernel)
theorem fl_RX1_13 : gFL RX1 13 1 1 (tyX1 1) true := ⟨RX1, TX1, 6, tyX1, rfl, uw_1, tyX1_ok, nmX1, by decide, w_309, tyX1_ok 1 (by decide), rfl⟩
theorem gc_31_1 : gcf 31 1 1 = some (some 33) := by decide +kernel
theorem w_310 : (Cond.fieldLink "TwoAgree$Changes" (16 : Nat) "TwoAgree$Changes" "olds" "[I") ∈ gtb := gt_sg sg_1 235 (by decide +kernel) (by decide +kernel)
theorem fl_RX1_16 : gFL RX1 16 1 2 (tyX1 2) true := ⟨RX1, TX1, 6, tyX1, rfl, uw_1, tyX1_ok, nmX1, by decide, w_310, tyX1_ok 2 (by decide), rfl⟩
theorem gc_31_2 : gcf 31 1 2 = some (some 34) := by decide +kernel
theorem w_311 : (Cond.fieldLink "TwoAgree$Changes" (19 : Nat) "TwoAgree$Changes" "news" "[I") ∈ gtb := gt_sg sg_1 236 (by decide +kernel) (by decide +kernel)
theorem fl_RX1_19 : gFL RX1 19 1 3 (tyX1 3) true := ⟨RX1, TX1, 6, tyX1, rfl, uw_1, tyX1_ok, nmX1, by decide, w_311, tyX1_ok 3 (by decide), rfl⟩
theorem gc_31_3 : gcf 31 1 3 = some (some 35) := by decide +kernel
abbrev m_Ch_add : gM := (yX1_add, cX1_add, 5, none)
theorem w_314 : (Cond.fieldLink "TwoAgree$Changes" (29 : Nat) "TwoAgree$Changes" "known" "I") ∈ gtb := gt_sg sg_1 239 (by decide +kernel) (by decide +kernel)
theorem fl_RX1_29 : gFL RX1 29 1 5 (tyX1 5) false := ⟨RX1, TX1, 6, tyX1, rfl, uw_1, tyX1_ok, nmX1, by decide, w_314, tyX1_ok 5 (by decide), rfl⟩
theorem gc_31_5 : gcf 31 1 5 = some none := by decide +kernel
theorem w_522 : Cond.code m_Ch_dropOldest.1 m_Ch_dropOldest.2.1 m_Ch_dropOldest.2.2.1 m_Ch_dropOldest.2.2.2 ∈ gtb := gt_sg sg_2 207 (by decide +kernel) (by decide +kernel)
theorem w_82 : (Cond.initialized "TwoAgree$Changes") ∈ gtb := gt_sg sg_1 7 (by decide +kernel) (by decide +kernel)
theorem lb_Ch_dropOldest : gLB m_Ch_dropOldest 0 := ⟨w_522, w_82, by decide +kernel, by decide +kernel, by decide +kernel⟩
theorem w_519 : (Cond.methodLink "TwoAgree$Changes" (26 : Nat) ({ cls := "TwoAgree$Changes", name := "dropOldest", desc := "()V" } : MethodName)) ∈ gtb := gt_sg sg_2 204 (by decide +kernel) (by decide +kernel)
theorem w_521 : (Cond.instanceMethod ({ cls := "TwoAgree$Changes", name := "dropOldest", desc := "()V" } : MethodName)) ∈ gtb := gt_sg sg_2 206 (by decide +kernel) (by decide +kernel)
theorem w_0 : Cond.selects m_Ch_dropOldest.1.cls m_Ch_dropOldest.1 m_Ch_dropOldest.1 ∈ gtb := gt_in 0 (by decide +kernel) (by decide +kernel)
theorem lv_RX1_26 : gLV RX1 26 m_Ch_dropOldest 0 := ⟨lb_Ch_dropOldest, w_519, w_521, w_0⟩
theorem gk_31 : gcls 31 = some 1 := by decide +kernel
abbrev m_Isl_knows : gM := (yX3_knows, cX3_knows, 3, some .boolean)
abbrev m_Isl_read : gM := (yX3_read, cX3_read, 3, some .int)
theorem w_506 : Cond.code m_Isl_knows.1 m_Isl_knows.2.1 m_Isl_knows.2.2.1 m_Isl_knows.2.2.2 ∈ gtb := gt_sg sg_2 191 (by decide +kernel) (by decide +kernel)
theorem lb_Isl_knows : gLB m_Isl_knows 2 := ⟨w_506, w_77, by decide +kernel, by decide +kernel, by decide +kernel⟩
theorem w_513 : (Cond.methodLink "TwoAgree$Island" (61 : Nat) ({ cls := "TwoAgree$Island", name := "knows", desc := "(II)Z" } : MethodName)) ∈ gtb := gt_sg sg_2 198 (by decide +kernel) (by decide +kernel)
theorem w_504 : (Cond.instanceMethod ({ cls := "TwoAgree$Island", name := "knows", desc := "(II)Z" } : MethodName)) ∈ gtb := gt_sg sg_2 189 (by decide +kernel) (by decide +kernel)
theorem w_505 : (Cond.selects "TwoAgree$Island" ({ cls := "TwoAgree$Island", name := "knows", desc := "(II)Z" } : MethodName) ({ cls := "TwoAgree$Island", name := "knows", desc := "(II)Z" } : MethodName)) ∈ gtb := gt_sg sg_2 190 (by decide +kernel) (by decide +kernel)
theorem lv_RX3_61 : gLV RX3 61 m_Isl_knows 2 := ⟨lb_Isl_knows, w_513, w_504, w_505⟩
theorem w_514 : (Cond.constant "TwoAgree$Island" (64 : Nat) (-2000000000 : Int32)) ∈ gtb := gt_sg sg_2 199 (by decide +kernel) (by decide +kernel)
theorem w_165 : (Cond.fieldLink "TwoAgree$Island" (65 : Nat) "TwoAgree$Island" "falls" "I") ∈ gtb := gt_sg sg_1 90 (by decide +kernel) (by decide +kernel)
theorem fl_RX3_65 : gFL RX3 65 3 7 (tyX3 7) false := ⟨RX3, TX3, 10, tyX3, rfl, uw_3, tyX3_ok, nmX3, by decide, w_165, tyX3_ok 7 (by decide), rfl⟩
theorem gc_1_7 : gcf 1 3 7 = some none := by decide +kernel
theorem w_167 : (Cond.fieldLink "TwoAgree$Island" (68 : Nat) "TwoAgree$Island" "wide" "I") ∈ gtb := gt_sg sg_1 92 (by decide +kernel) (by decide +kernel)
theorem fl_RX3_68 : gFL RX3 68 3 8 (tyX3 8) false := ⟨RX3, TX3, 10, tyX3, rfl, uw_3, tyX3_ok, nmX3, by decide, w_167, tyX3_ok 8 (by decide), rfl⟩
theorem gc_1_8 : gcf 1 3 8 = some none := by decide +kernel
theorem w_171 : (Cond.fieldLink "TwoAgree$Island" (71 : Nat) "TwoAgree$Island" "day" "I") ∈ gtb := gt_sg sg_1 96 (by decide +kernel) (by decide +kernel)
theorem fl_RX3_71 : gFL RX3 71 3 9 (tyX3 9) false := ⟨RX3, TX3, 10, tyX3, rfl, uw_3, tyX3_ok, nmX3, by decide, w_171, tyX3_ok 9 (by decide), rfl⟩
theorem gc_1_9 : gcf 1 3 9 = some none := by decide +kernel
abbrev m_Isl_write : gM := (yX3_write, cX3_write, 4, none)
abbrev m_T_mend : gM := (yX10_mend, cX10_mend, 5, some .int)
theorem w_503 : (Cond.methodLink "TwoAgree" (95 : Nat) ({ cls := "TwoAgree$Island", name := "knows", desc := "(II)Z" } : MethodName)) ∈ gtb := gt_sg sg_2 188 (by decide +kernel) (by decide +kernel)
theorem lv_RX10_95 : gLV RX10 95 m_Isl_knows 2 := ⟨lb_Isl_knows, w_503, w_504, w_505⟩
theorem w_508 : (Cond.constant "TwoAgree" (101 : Nat) (-2000000000 : Int32)) ∈ gtb := gt_sg sg_2 193 (by decide +kernel) (by decide +kernel)
theorem w_507 : (Cond.methodLink "TwoAgree" (98 : Nat) ({ cls := "TwoAgree$Island", name := "takes", desc := "(II)Z" } : MethodName)) ∈ gtb := gt_sg sg_2 192 (by decide +kernel) (by decide +kernel)
theorem ls_RX10_98 : gLS RX10 98 m_Isl_takes 2 := ⟨lb_Isl_takes, w_507, w_491⟩
theorem w_512 : Cond.code m_Isl_read.1 m_Isl_read.2.1 m_Isl_read.2.2.1 m_Isl_read.2.2.2 ∈ gtb := gt_sg sg_2 197 (by decide +kernel) (by decide +kernel)
theorem lb_Isl_read : gLB m_Isl_read 2 := ⟨w_512, w_77, by decide +kernel, by decide +kernel, by decide +kernel⟩
theorem w_509 : (Cond.methodLink "TwoAgree" (102 : Nat) ({ cls := "TwoAgree$Island", name := "read", desc := "(II)I" } : MethodName)) ∈ gtb := gt_sg sg_2 194 (by decide +kernel) (by decide +kernel)
theorem w_510 : (Cond.instanceMethod ({ cls := "TwoAgree$Island", name := "read", desc := "(II)I" } : MethodName)) ∈ gtb := gt_sg sg_2 195 (by decide +kernel) (by decide +kernel)
theorem w_511 : (Cond.selects "TwoAgree$Island" ({ cls := "TwoAgree$Island", name := "read", desc := "(II)I" } : MethodName) ({ cls := "TwoAgree$Island", name := "read", desc := "(II)I" } : MethodName)) ∈ gtb := gt_sg sg_2 196 (by decide +kernel) (by decide +kernel)
theorem lv_RX10_102 : gLV RX10 102 m_Isl_read 2 := ⟨lb_Isl_read, w_509, w_510, w_511⟩
theorem w_434 : (Cond.fieldLink "TwoAgree" (40 : Nat) "TwoAgree" "changes" "LTwoAgree$Changes;") ∈ gtb := gt_sg sg_2 119 (by decide +kernel) (by decide +kernel)
theorem fl_RX10_40 : gFL RX10 40 10 4 (tyX10 4) true := ⟨RX10, TX10, 9, tyX10, rfl, uw_10, tyX10_ok, nmX10, by decide, w_434, tyX10_ok 4 (by decide), rfl⟩
theorem gc_0_4 : gcf 0 10 4 = some (some 31) := by decide +kernel
theorem w_518 : Cond.code m_Ch_add.1 m_Ch_add.2.1 m_Ch_add.2.2.1 m_Ch_add.2.2.2 ∈ gtb := gt_sg sg_2 203 (by decide +kernel) (by decide +kernel)
theorem lb_Ch_add : gLB m_Ch_add 4 := ⟨w_518, w_82, by decide +kernel, by decide +kernel, by decide +kernel⟩
theorem w_515 : (Cond.methodLink "TwoAgree" (106 : Nat) ({ cls := "TwoAgree$Changes", name := "add", desc := "(IIII)V" } : MethodName)) ∈ gtb := gt_sg sg_2 200 (by decide +kernel) (by decide +kernel)
theorem w_516 : (Cond.instanceMethod ({ cls := "TwoAgree$Changes", name := "add", desc := "(IIII)V" } : MethodName)) ∈ gtb := gt_sg sg_2 201 (by decide +kernel) (by decide +kernel)
theorem w_517 : (Cond.selects "TwoAgree$Changes" ({ cls := "TwoAgree$Changes", name := "add", desc := "(IIII)V" } : MethodName) ({ cls := "TwoAgree$Changes", name := "add", desc := "(IIII)V" } : MethodName)) ∈ gtb := gt_sg sg_2 202 (by decide +kernel) (by decide +kernel)
theorem lv_RX10_106 : gLV RX10 106 m_Ch_add 4 := ⟨lb_Ch_add, w_515, w_516, w_517⟩
theorem w_529 : Cond.code m_Isl_write.1 m_Isl_write.2.1 m_Isl_write.2.2.1 m_Isl_write.2.2.2 ∈ gtb := gt_sg sg_2 214 (by decide +kernel) (by decide +kernel)
theorem lb_Isl_write : gLB m_Isl_write 3 := ⟨w_529, w_77, by decide +kernel, by decide +kernel, by decide +kernel⟩
theorem w_526 : (Cond.methodLink "TwoAgree" (110 : Nat) ({ cls := "TwoAgree$Island", name := "write", desc := "(III)V" } : MethodName)) ∈ gtb := gt_sg sg_2 211 (by decide +kernel) (by decide +kernel)
theorem w_527 : (Cond.instanceMethod ({ cls := "TwoAgree$Island", name := "write", desc := "(III)V" } : MethodName)) ∈ gtb := gt_sg sg_2 212 (by decide +kernel) (by decide +kernel)
theorem w_528 : (Cond.selects "TwoAgree$Island" ({ cls := "TwoAgree$Island", name := "write", desc := "(III)V" } : MethodName) ({ cls := "TwoAgree$Island", name := "write", desc := "(III)V" } : MethodName)) ∈ gtb := gt_sg sg_2 213 (by decide +kernel) (by decide +kernel)
theorem lv_RX10_110 : gLV RX10 110 m_Isl_write 3 := ⟨lb_Isl_write, w_526, w_527, w_528⟩
abbrev m_T_of : gM := (yX10_of, cX10_of, 3, some .int)
abbrev m_Pa_hear : gM := (yX6_hear, cX6_hear, 2, some .int)
theorem ga_28 : gia 28 = some 120 := by decide +kernel
theorem uw_6 : ∀ w ∈ u_ws RX6 TX6 8, w ∈ gtb := gmem_p [285, 287, 289, 291, 293, 295, 297, 299] (by decide +kernel) (by decide +kernel)
theorem w_279 : (Cond.fieldLink "TwoAgree$Parser" (23 : Nat) "TwoAgree$Parser" "length" "I") ∈ gtb := gt_sg sg_1 204 (by decide +kernel) (by decide +kernel)
theorem fl_RX6_23 : gFL RX6 23 6 3 (tyX6 3) false := ⟨RX6, TX6, 8, tyX6, rfl, uw_6, tyX6_ok, nmX6, by decide, w_279, tyX6_ok 3 (by decide), rfl⟩
theorem gc_27_3 : gcf 27 6 3 = some none := by decide +kernel
theorem w_276 : (Cond.fieldLink "TwoAgree$Parser" (11 : Nat) "TwoAgree$Parser" "tape" "[I") ∈ gtb := gt_sg sg_1 201 (by decide +kernel) (by decide +kernel)
theorem fl_RX6_11 : gFL RX6 11 6 0 (tyX6 0) true := ⟨RX6, TX6, 8, tyX6, rfl, uw_6, tyX6_ok, nmX6, by decide, w_276, tyX6_ok 0 (by decide), rfl⟩
theorem gc_27_0 : gcf 27 6 0 = some (some 28) := by decide +kernel
abbrev m_T_feed : gM := (yX10_feed, cX10_feed, 2, some .int)
theorem w_433 : (Cond.fieldLink "TwoAgree" (33 : Nat) "TwoAgree" "parser" "LTwoAgree$Parser;") ∈ gtb := gt_sg sg_2 118 (by decide +kernel) (by decide +kernel)
theorem fl_RX10_33 : gFL RX10 33 10 3 (tyX10 3) true := ⟨RX10, TX10, 9, tyX10, rfl, uw_10, tyX10_ok, nmX10, by decide, w_433, tyX10_ok 3 (by decide), rfl⟩
theorem gc_0_3 : gcf 0 10 3 = some (some 27) := by decide +kernel
theorem w_541 : Cond.code m_Pa_hear.1 m_Pa_hear.2.1 m_Pa_hear.2.2.1 m_Pa_hear.2.2.2 ∈ gtb := gt_sg sg_2 226 (by decide +kernel) (by decide +kernel)
theorem w_81 : (Cond.initialized "TwoAgree$Parser") ∈ gtb := gt_sg sg_1 6 (by decide +kernel) (by decide +kernel)
theorem lb_Pa_hear : gLB m_Pa_hear 1 := ⟨w_541, w_81, by decide +kernel, by decide +kernel, by decide +kernel⟩
theorem w_538 : (Cond.methodLink "TwoAgree" (114 : Nat) ({ cls := "TwoAgree$Parser", name := "hear", desc := "(I)I" } : MethodName)) ∈ gtb := gt_sg sg_2 223 (by decide +kernel) (by decide +kernel)
theorem w_539 : (Cond.instanceMethod ({ cls := "TwoAgree$Parser", name := "hear", desc := "(I)I" } : MethodName)) ∈ gtb := gt_sg sg_2 224 (by decide +kernel) (by decide +kernel)
theorem w_540 : (Cond.selects "TwoAgree$Parser" ({ cls := "TwoAgree$Parser", name := "hear", desc := "(I)I" } : MethodName) ({ cls := "TwoAgree$Parser", name := "hear", desc := "(I)I" } : MethodName)) ∈ gtb := gt_sg sg_2 225 (by decide +kernel) (by decide +kernel)
theorem lv_RX10_114 : gLV RX10 114 m_Pa_hear 1 := ⟨lb_Pa_hear, w_538, w_539, w_540⟩
theorem gk_27 : gcls 27 = some 6 := by decide +kernel
abbrev m_Pa_next : gM := (yX6_next, cX6_next, 1, some .int)
theorem w_282 : (Cond.fieldLink "TwoAgree$Parser" (30 : Nat) "TwoAgree$Parser" "at" "I") ∈ gtb := gt_sg sg_1 207 (by decide +kernel) (by decide +kernel)
theorem fl_RX6_30 : gFL RX6 30 6 5 (tyX6 5) false := ⟨RX6, TX6, 8, tyX6, rfl, uw_6, tyX6_ok, nmX6, by decide, w_282, tyX6_ok 5 (by decide), rfl⟩
theorem gc_27_5 : gcf 27 6 5 = some none := by decide +kernel
theorem ln_RX6_67 : gLSN RX6 67 m_T_within 2 := ⟨lb_T_within, ⟨"TwoAgree", List.mem_of_getElem? (i := 13) (by decide +kernel)⟩, w_463⟩
abbrev m_Pa_meets : gM := (yX6_meets, cX6_meets, 2, some .boolean)
theorem w_283 : (Cond.fieldLink "TwoAgree$Parser" (33 : Nat) "TwoAgree$Parser" "fault" "I") ∈ gtb := gt_sg sg_1 208 (by decide +kernel) (by decide +kernel)
theorem fl_RX6_33 : gFL RX6 33 6 6 (tyX6 6) false := ⟨RX6, TX6, 8, tyX6, rfl, uw_6, tyX6_ok, nmX6, by decide, w_283, tyX6_ok 6 (by decide), rfl⟩
theorem gc_27_6 : gcf 27 6 6 = some none := by decide +kernel
theorem w_565 : Cond.code m_Pa_next.1 m_Pa_next.2.1 m_Pa_next.2.2.1 m_Pa_next.2.2.2 ∈ gtb := gt_sg sg_3 10 (by decide +kernel) (by decide +kernel)
theorem lb_Pa_next : gLB m_Pa_next 0 := ⟨w_565, w_81, by decide +kernel, by decide +kernel, by decide +kernel⟩
theorem w_562 : (Cond.methodLink "TwoAgree$Parser" (75 : Nat) ({ cls := "TwoAgree$Parser", name := "next", desc := "()I" } : MethodName)) ∈ gtb := gt_sg sg_3 7 (by decide +kernel) (by decide +kernel)
theorem w_564 : (Cond.instanceMethod ({ cls := "TwoAgree$Parser", name := "next", desc := "()I" } : MethodName)) ∈ gtb := gt_sg sg_3 9 (by decide +kernel) (by decide +kernel)
theorem w_4 : Cond.selects m_Pa_next.1.cls m_Pa_next.1 m_Pa_next.1 ∈ gtb := gt_in 4 (by decide +kernel) (by decide +kernel)
theorem lv_RX6_75 : gLV RX6 75 m_Pa_next 0 := ⟨lb_Pa_next, w_562, w_564, w_4⟩
abbrev m_Pa_emit : gM := (yX6_emit, cX6_emit, 3, none)
theorem ga_29 : gia 29 = some 128 := by decide +kernel
theorem ga_30 : gia 30 = some 128 := by decide +kernel
theorem w_281 : (Cond.fieldLink "TwoAgree$Parser" (27 : Nat) "TwoAgree$Parser" "made" "I") ∈ gtb := gt_sg sg_1 206 (by decide +kernel) (by decide +kernel)
theorem fl_RX6_27 : gFL RX6 27 6 4 (tyX6 4) false := ⟨RX6, TX6, 8, tyX6, rfl, uw_6, tyX6_ok, nmX6, by decide, w_281, tyX6_ok 4 (by decide), rfl⟩
theorem gc_27_4 : gcf 27 6 4 = some none := by decide +kernel
theorem w_277 : (Cond.fieldLink "TwoAgree$Parser" (17 : Nat) "TwoAgree$Parser" "steps" "[I") ∈ gtb := gt_sg sg_1 202 (by decide +kernel) (by decide +kernel)
theorem fl_RX6_17 : gFL RX6 17 6 1 (tyX6 1) true := ⟨RX6, TX6, 8, tyX6, rfl, uw_6, tyX6_ok, nmX6, by decide, w_277, tyX6_ok 1 (by decide), rfl⟩
theorem gc_27_1 : gcf 27 6 1 = some (some 29) := by decide +kernel
theorem w_278 : (Cond.fieldLink "TwoAgree$Parser" (20 : Nat) "TwoAgree$Parser" "with" "[I") ∈ gtb := gt_sg sg_1 203 (by decide +kernel) (by decide +kernel)
theorem fl_RX6_20 : gFL RX6 20 6 2 (tyX6 2) true := ⟨RX6, TX6, 8, tyX6, rfl, uw_6, tyX6_ok, nmX6, by decide, w_278, tyX6_ok 2 (by decide), rfl⟩
theorem gc_27_2 : gcf 27 6 2 = some (some 30) := by decide +kernel
abbrev m_Pa_rankOf : gM := (yX6_rankOf, cX6_rankOf, 1, some .int)
abbrev m_Pa_isDigit : gM := (yX6_isDigit, cX6_isDigit, 1, some .boolean)
abbrev m_Pa_readNumber : gM := (yX6_readNumber, cX6_readNumber, 3, none)
theorem w_664 : Cond.code m_Pa_emit.1 m_Pa_emit.2.1 m_Pa_emit.2.2.1 m_Pa_emit.2.2.2 ∈ gtb := gt_sg sg_3 109 (by decide +kernel) (by decide +kernel)
theorem lb_Pa_emit : gLB m_Pa_emit 2 := ⟨w_664, w_81, by decide +kernel, by decide +kernel, by decide +kernel⟩
theorem w_661 : (Cond.methodLink "TwoAgree$Parser" (64 : Nat) ({ cls := "TwoAgree$Parser", name := "emit", desc := "(II)V" } : MethodName)) ∈ gtb := gt_sg sg_3 106 (by decide +kernel) (by decide +kernel)
theorem w_663 : (Cond.instanceMethod ({ cls := "TwoAgree$Parser", name := "emit", desc := "(II)V" } : MethodName)) ∈ gtb := gt_sg sg_3 108 (by decide +kernel) (by decide +kernel)
theorem w_6 : Cond.selects m_Pa_emit.1.cls m_Pa_emit.1 m_Pa_emit.1 ∈ gtb := gt_in 6 (by decide +kernel) (by decide +kernel)
theorem lv_RX6_64 : gLV RX6 64 m_Pa_emit 2 := ⟨lb_Pa_emit, w_661, w_663, w_6⟩
theorem w_656 : Cond.code m_Pa_isDigit.1 m_Pa_isDigit.2.1 m_Pa_isDigit.2.2.1 m_Pa_isDigit.2.2.2 ∈ gtb := gt_sg sg_3 101 (by decide +kernel) (by decide +kernel)
theorem lb_Pa_isDigit : gLB m_Pa_isDigit 1 := ⟨w_656, w_81, by decide +kernel, by decide +kernel, by decide +kernel⟩
theorem w_655 : (Cond.static ({ cls := "TwoAgree$Parser", name := "isDigit", desc := "(I)Z" } : MethodName)) ∈ gtb := gt_sg sg_3 100 (by decide +kernel) (by decide +kernel)
theorem w_654 : (Cond.methodLink "TwoAgree$Parser" (90 : Nat) ({ cls := "TwoAgree$Parser", name := "isDigit", desc := "(I)Z" } : MethodName)) ∈ gtb := gt_sg sg_3 99 (by decide +kernel) (by decide +kernel)
theorem ls_RX6_90 : gLS RX6 90 m_Pa_isDigit 1 := ⟨lb_Pa_isDigit, w_654, w_655⟩
abbrev m_Pa_refuse : gM := (yX6_refuse, cX6_refuse, 1, none)
abbrev m_JS_isLatin1 : gM := (yJ0_isLatin1_aae02, cJ0_isLatin1_aae02, 1, some .boolean)
theorem w_580 : (Cond.fieldLink "java/lang/String" (38 : Nat) "java/lang/String" "COMPACT_STRINGS" "Z") ∈ gtb := gt_sg sg_3 25 (by decide +kernel) (by decide +kernel)
theorem w_1642 : (Cond.fieldLink "java/lang/String" (15 : Nat) "java/lang/String" "coder" "B") ∈ gtb := gt_sg sg_7 127 (by decide +kernel) (by decide +kernel)
abbrev m_JS_coder : gM := (yJ0_coder_7d493, cJ0_coder_7d493, 1, some .byte)
abbrev m_JS_length : gM := (yJ0_length_8abf5, cJ0_length_8abf5, 1, some .int)
theorem w_1643 : (Cond.fieldLink "java/lang/String" (9 : Nat) "java/lang/String" "value" "[B") ∈ gtb := gt_sg sg_7 128 (by decide +kernel) (by decide +kernel)
theorem w_589 : Cond.code m_JS_coder.1 m_JS_coder.2.1 m_JS_coder.2.2.1 m_JS_coder.2.2.2 ∈ gtb := gt_sg sg_3 34 (by decide +kernel) (by decide +kernel)
theorem w_89 : (Cond.initialized "java/lang/String") ∈ gtb := gt_sg sg_1 14 (by decide +kernel) (by decide +kernel)
theorem lb_JS_coder : gLB m_JS_coder 0 := ⟨w_589, w_89, by decide +kernel, by decide +kernel, by decide +kernel⟩
theorem w_586 : (Cond.methodLink "java/lang/String" (335 : Nat) ({ cls := "java/lang/String", name := "coder", desc := "()B" } : MethodName)) ∈ gtb := gt_sg sg_3 31 (by decide +kernel) (by decide +kernel)
theorem w_587 : (Cond.instanceMethod ({ cls := "java/lang/String", name := "coder", desc := "()B" } : MethodName)) ∈ gtb := gt_sg sg_3 32 (by decide +kernel) (by decide +kernel)
theorem w_588 : (Cond.selects "java/lang/String" ({ cls := "java/lang/String", name := "coder", desc := "()B" } : MethodName) ({ cls := "java/lang/String", name := "coder", desc := "()B" } : MethodName)) ∈ gtb := gt_sg sg_3 33 (by decide +kernel) (by decide +kernel)
theorem lv_RJ0_335 : gLV RJ0 335 m_JS_coder 0 := ⟨lb_JS_coder, w_586, w_587, w_588⟩
abbrev m_JL_canEncode : gM := (yJ1_canEncode_9a6ad, cJ1_canEncode_9a6ad, 1, some .boolean)
abbrev m_JL_indexOfChar : gM := (yJ1_indexOfChar_4cfef, cJ1_indexOfChar_4cfef, 6, some .int)
abbrev m_JL_indexOf : gM := (yJ1_indexOf_4cfef, cJ1_indexOf_4cfef, 4, some .int)
theorem w_595 : Cond.code m_JL_canEncode.1 m_JL_canEncode.2.1 m_JL_canEncode.2.2.1 m_JL_canEncode.2.2.2 ∈ gtb := gt_sg sg_3 40 (by decide +kernel) (by decide +kernel)
theorem w_90 : (Cond.initialized "java/lang/StringLatin1") ∈ gtb := gt_sg sg_1 15 (by decide +kernel) (by decide +kernel)
theorem lb_JL_canEncode : gLB m_JL_canEncode 1 := ⟨w_595, w_90, by decide +kernel, by decide +kernel, by decide +kernel⟩
theorem w_594 : (Cond.static ({ cls := "java/lang/StringLatin1", name := "canEncode", desc := "(I)Z" } : MethodName)) ∈ gtb := gt_sg sg_3 39 (by decide +kernel) (by decide +kernel)
theorem w_593 : (Cond.methodLink "java/lang/StringLatin1" (88 : Nat) ({ cls := "java/lang/StringLatin1", name := "canEncode", desc := "(I)Z" } : MethodName)) ∈ gtb := gt_sg sg_3 38 (by decide +kernel) (by decide +kernel)
theorem ls_RJ1_88 : gLS RJ1 88 m_JL_canEncode 1 := ⟨lb_JL_canEncode, w_593, w_594⟩
theorem w_91 : (Cond.initialized "java/lang/Math") ∈ gtb := gt_sg sg_1 16 (by decide +kernel) (by decide +kernel)
theorem w_597 : (Cond.static ({ cls := "java/lang/Math", name := "max", desc := "(II)I" } : MethodName)) ∈ gtb := gt_sg sg_3 42 (by decide +kernel) (by decide +kernel)
theorem wc_max : Cond.code Lib.Math.max.name Lib.Math.max.code 2 (some .int) ∈ gtb := gt_sg sg_3 43 (by decide +kernel) (by decide +kernel)
theorem w_596 : (Cond.methodLink "java/lang/StringLatin1" (92 : Nat) ({ cls := "java/lang/Math", name := "max", desc := "(II)I" } : MethodName)) ∈ gtb := gt_sg sg_3 41 (by decide +kernel) (by decide +kernel)
theorem w_600 : (Cond.static ({ cls := "java/lang/Math", name := "min", desc := "(II)I" } : MethodName)) ∈ gtb := gt_sg sg_3 45 (by decide +kernel) (by decide +kernel)
theorem wc_min : Cond.code Lib.Math.min.name Lib.Math.min.code 2 (some .int) ∈ gtb := gt_sg sg_3 46 (by decide +kernel) (by decide +kernel)
theorem w_599 : (Cond.methodLink "java/lang/StringLatin1" (38 : Nat) ({ cls := "java/lang/Math", name := "min", desc := "(II)I" } : MethodName)) ∈ gtb := gt_sg sg_3 44 (by decide +kernel) (by decide +kernel)
theorem w_604 : Cond.code m_JL_indexOfChar.1 m_JL_indexOfChar.2.1 m_JL_indexOfChar.2.2.1 m_JL_indexOfChar.2.2.2 ∈ gtb := gt_sg sg_3 49 (by decide +kernel) (by decide +kernel)
theorem lb_JL_indexOfChar : gLB m_JL_indexOfChar 4 := ⟨w_604, w_90, by decide +kernel, by decide +kernel, by decide +kernel⟩
theorem w_603 : (Cond.static ({ cls := "java/lang/StringLatin1", name := "indexOfChar", desc := "([BIII)I" } : MethodName)) ∈ gtb := gt_sg sg_3 48 (by decide +kernel) (by decide +kernel)
theorem w_602 : (Cond.methodLink "java/lang/StringLatin1" (95 : Nat) ({ cls := "java/lang/StringLatin1", name := "indexOfChar", desc := "([BIII)I" } : MethodName)) ∈ gtb := gt_sg sg_3 47 (by decide +kernel) (by decide +kernel)
theorem ls_RJ1_95 : gLS RJ1 95 m_JL_indexOfChar 4 := ⟨lb_JL_indexOfChar, w_602, w_603⟩
abbrev m_JS_indexOf2 : gM := (yJ0_indexOf_7cf53, cJ0_indexOf_7cf53, 3, some .int)
theorem w_579 : Cond.code m_JS_isLatin1.1 m_JS_isLatin1.2.1 m_JS_isLatin1.2.2.1 m_JS_isLatin1.2.2.2 ∈ gtb := gt_sg sg_3 24 (by decide +kernel) (by decide +kernel)
theorem lb_JS_isLatin1 : gLB m_JS_isLatin1 0 := ⟨w_579, w_89, by decide +kernel, by decide +kernel, by decide +kernel⟩
theorem w_576 : (Cond.methodLink "java/lang/String" (492 : Nat) ({ cls := "java/lang/String", name := "isLatin1", desc := "()Z" } : MethodName)) ∈ gtb := gt_sg sg_3 21 (by decide +kernel) (by decide +kernel)
theorem w_577 : (Cond.instanceMethod ({ cls := "java/lang/String", name := "isLatin1", desc := "()Z" } : MethodName)) ∈ gtb := gt_sg sg_3 22 (by decide +kernel) (by decide +kernel)
theorem w_578 : (Cond.selects "java/lang/String" ({ cls := "java/lang/String", name := "isLatin1", desc := "()Z" } : MethodName) ({ cls := "java/lang/String", name := "isLatin1", desc := "()Z" } : MethodName)) ∈ gtb := gt_sg sg_3 23 (by decide +kernel) (by decide +kernel)
theorem lv_RJ0_492 : gLV RJ0 492 m_JS_isLatin1 0 := ⟨lb_JS_isLatin1, w_576, w_577, w_578⟩
theorem w_585 : Cond.code m_JS_length.1 m_JS_length.2.1 m_JS_length.2.2.1 m_JS_length.2.2.2 ∈ gtb := gt_sg sg_3 30 (by decide +kernel) (by decide +kernel)
theorem lb_JS_length : gLB m_JS_length 0 := ⟨w_585, w_89, by decide +kernel, by decide +kernel, by decide +kernel⟩
theorem w_582 : (Cond.methodLink "java/lang/String" (505 : Nat) ({ cls := "java/lang/String", name := "length", desc := "()I" } : MethodName)) ∈ gtb := gt_sg sg_3 27 (by decide +kernel) (by decide +kernel)
theorem w_583 : (Cond.instanceMethod ({ cls := "java/lang/String", name := "length", desc := "()I" } : MethodName)) ∈ gtb := gt_sg sg_3 28 (by decide +kernel) (by decide +kernel)
theorem w_584 : (Cond.selects "java/lang/String" ({ cls := "java/lang/String", name := "length", desc := "()I" } : MethodName) ({ cls := "java/lang/String", name := "length", desc := "()I" } : MethodName)) ∈ gtb := gt_sg sg_3 29 (by decide +kernel) (by decide +kernel)
theorem lv_RJ0_505 : gLV RJ0 505 m_JS_length 0 := ⟨lb_JS_length, w_582, w_583, w_584⟩
theorem w_592 : Cond.code m_JL_indexOf.1 m_JL_indexOf.2.1 m_JL_indexOf.2.2.1 m_JL_indexOf.2.2.2 ∈ gtb := gt_sg sg_3 37 (by decide +kernel) (by decide +kernel)
theorem lb_JL_indexOf : gLB m_JL_indexOf 4 := ⟨w_592, w_90, by decide +kernel, by decide +kernel, by decide +kernel⟩
theorem w_591 : (Cond.static ({ cls := "java/lang/StringLatin1", name := "indexOf", desc := "([BIII)I" } : MethodName)) ∈ gtb := gt_sg sg_3 36 (by decide +kernel) (by decide +kernel)
theorem w_590 : (Cond.methodLink "java/lang/String" (637 : Nat) ({ cls := "java/lang/StringLatin1", name := "indexOf", desc := "([BIII)I" } : MethodName)) ∈ gtb := gt_sg sg_3 35 (by decide +kernel) (by decide +kernel)
theorem ls_RJ0_637 : gLS RJ0 637 m_JL_indexOf 4 := ⟨lb_JL_indexOf, w_590, w_591⟩
abbrev m_JS_indexOf : gM := (yJ0_indexOf_0f7a4, cJ0_indexOf_0f7a4, 2, some .int)
theorem w_575 : Cond.code m_JS_indexOf2.1 m_JS_indexOf2.2.1 m_JS_indexOf2.2.2.1 m_JS_indexOf2.2.2.2 ∈ gtb := gt_sg sg_3 20 (by decide +kernel) (by decide +kernel)
theorem lb_JS_indexOf2 : gLB m_JS_indexOf2 2 := ⟨w_575, w_89, by decide +kernel, by decide +kernel, by decide +kernel⟩
theorem w_572 : (Cond.methodLink "java/lang/String" (633 : Nat) ({ cls := "java/lang/String", name := "indexOf", desc := "(II)I" } : MethodName)) ∈ gtb := gt_sg sg_3 17 (by decide +kernel) (by decide +kernel)
theorem w_573 : (Cond.instanceMethod ({ cls := "java/lang/String", name := "indexOf", desc := "(II)I" } : MethodName)) ∈ gtb := gt_sg sg_3 18 (by decide +kernel) (by decide +kernel)
theorem w_574 : (Cond.selects "java/lang/String" ({ cls := "java/lang/String", name := "indexOf", desc := "(II)I" } : MethodName) ({ cls := "java/lang/String", name := "indexOf", desc := "(II)I" } : MethodName)) ∈ gtb := gt_sg sg_3 19 (by decide +kernel) (by decide +kernel)
theorem lv_RJ0_633 : gLV RJ0 633 m_JS_indexOf2 2 := ⟨lb_JS_indexOf2, w_572, w_573, w_574⟩
abbrev m_Pa_readRank : gM := (yX6_readRank, cX6_readRank, 6, none)
theorem w_557 : Cond.code m_Pa_readRank.1 m_Pa_readRank.2.1 m_Pa_readRank.2.2.1 m_Pa_readRank.2.2.2 ∈ gtb := gt_sg sg_3 2 (by decide +kernel) (by decide +kernel)
theorem lb_Pa_readRank : gLB m_Pa_readRank 2 := ⟨w_557, w_81, by decide +kernel, by decide +kernel, by decide +kernel⟩
theorem w_554 : (Cond.methodLink "TwoAgree$Parser" (60 : Nat) ({ cls := "TwoAgree$Parser", name := "readRank", desc := "(II)V" } : MethodName)) ∈ gtb := gt_sg sg_2 239 (by decide +kernel) (by decide +kernel)
theorem w_556 : (Cond.instanceMethod ({ cls := "TwoAgree$Parser", name := "readRank", desc := "(II)V" } : MethodName)) ∈ gtb := gt_sg sg_3 1 (by decide +kernel) (by decide +kernel)
theorem w_2 : Cond.selects m_Pa_readRank.1.cls m_Pa_readRank.1 m_Pa_readRank.1 ∈ gtb := gt_in 2 (by decide +kernel) (by decide +kernel)
theorem lv_RX6_60 : gLV RX6 60 m_Pa_readRank 2 := ⟨lb_Pa_readRank, w_554, w_556, w_2⟩
theorem w_675 : Cond.code m_Pa_rankOf.1 m_Pa_rankOf.2.1 m_Pa_rankOf.2.2.1 m_Pa_rankOf.2.2.2 ∈ gtb := gt_sg sg_3 120 (by decide +kernel) (by decide +kernel)
theorem lb_Pa_rankOf : gLB m_Pa_rankOf 1 := ⟨w_675, w_81, by decide +kernel, by decide +kernel, by decide +kernel⟩
theorem w_674 : (Cond.static ({ cls := "TwoAgree$Parser", name := "rankOf", desc := "(I)I" } : MethodName)) ∈ gtb := gt_sg sg_3 119 (by decide +kernel) (by decide +kernel)
theorem w_673 : (Cond.methodLink "TwoAgree$Parser" (79 : Nat) ({ cls := "TwoAgree$Parser", name := "rankOf", desc := "(I)I" } : MethodName)) ∈ gtb := gt_sg sg_3 118 (by decide +kernel) (by decide +kernel)
theorem ls_RX6_79 : gLS RX6 79 m_Pa_rankOf 1 := ⟨lb_Pa_rankOf, w_673, w_674⟩
abbrev m_Pa_readOperand : gM := (yX6_readOperand, cX6_readOperand, 4, none)
theorem w_561 : Cond.code m_Pa_readOperand.1 m_Pa_readOperand.2.1 m_Pa_readOperand.2.2.1 m_Pa_readOperand.2.2.2 ∈ gtb := gt_sg sg_3 6 (by decide +kernel) (by decide +kernel)
theorem lb_Pa_readOperand : gLB m_Pa_readOperand 1 := ⟨w_561, w_81, by decide +kernel, by decide +kernel, by decide +kernel⟩
theorem w_558 : (Cond.methodLink "TwoAgree$Parser" (71 : Nat) ({ cls := "TwoAgree$Parser", name := "readOperand", desc := "(I)V" } : MethodName)) ∈ gtb := gt_sg sg_3 3 (by decide +kernel) (by decide +kernel)
theorem w_560 : (Cond.instanceMethod ({ cls := "TwoAgree$Parser", name := "readOperand", desc := "(I)V" } : MethodName)) ∈ gtb := gt_sg sg_3 5 (by decide +kernel) (by decide +kernel)
theorem w_3 : Cond.selects m_Pa_readOperand.1.cls m_Pa_readOperand.1 m_Pa_readOperand.1 ∈ gtb := gt_in 3 (by decide +kernel) (by decide +kernel)
theorem lv_RX6_71 : gLV RX6 71 m_Pa_readOperand 1 := ⟨lb_Pa_readOperand, w_558, w_560, w_3⟩
theorem w_571 : Cond.code m_JS_indexOf.1 m_JS_indexOf.2.1 m_JS_indexOf.2.2.1 m_JS_indexOf.2.2.2 ∈ gtb := gt_sg sg_3 16 (by decide +kernel) (by decide +kernel)
theorem lb_JS_indexOf : gLB m_JS_indexOf 1 := ⟨w_571, w_89, by decide +kernel, by decide +kernel, by decide +kernel⟩
theorem w_568 : (Cond.methodLink "TwoAgree$Parser" (85 : Nat) ({ cls := "java/lang/String", name := "indexOf", desc := "(I)I" } : MethodName)) ∈ gtb := gt_sg sg_3 13 (by decide +kernel) (by decide +kernel)
theorem w_569 : (Cond.instanceMethod ({ cls := "java/lang/String", name := "indexOf", desc := "(I)I" } : MethodName)) ∈ gtb := gt_sg sg_3 14 (by decide +kernel) (by decide +kernel)
theorem w_570 : (Cond.selects "java/lang/String" ({ cls := "java/lang/String", name := "indexOf", desc := "(I)I" } : MethodName) ({ cls := "java/lang/String", name := "indexOf", desc := "(I)I" } : MethodName)) ∈ gtb := gt_sg sg_3 15 (by decide +kernel) (by decide +kernel)
theorem lv_RX6_85 : gLV RX6 85 m_JS_indexOf 1 := ⟨lb_JS_indexOf, w_568, w_569, w_570⟩
theorem w_672 : Cond.code m_Pa_refuse.1 m_Pa_refuse.2.1 m_Pa_refuse.2.2.1 m_Pa_refuse.2.2.2 ∈ gtb := gt_sg sg_3 117 (by decide +kernel) (by decide +kernel)
theorem lb_Pa_refuse : gLB m_Pa_refuse 0 := ⟨w_672, w_81, by decide +kernel, by decide +kernel, by decide +kernel⟩
theorem w_669 : (Cond.methodLink "TwoAgree$Parser" (47 : Nat) ({ cls := "TwoAgree$Parser", name := "refuse", desc := "()V" } : MethodName)) ∈ gtb := gt_sg sg_3 114 (by decide +kernel) (by decide +kernel)
theorem w_671 : (Cond.instanceMethod ({ cls := "TwoAgree$Parser", name := "refuse", desc := "()V" } : MethodName)) ∈ gtb := gt_sg sg_3 116 (by decide +kernel) (by decide +kernel)
theorem w_8 : Cond.selects m_Pa_refuse.1.cls m_Pa_refuse.1 m_Pa_refuse.1 ∈ gtb := gt_in 8 (by decide +kernel) (by decide +kernel)
theorem lv_RX6_47 : gLV RX6 47 m_Pa_refuse 0 := ⟨lb_Pa_refuse, w_669, w_671, w_8⟩
theorem w_668 : Cond.code m_Pa_meets.1 m_Pa_meets.2.1 m_Pa_meets.2.2.1 m_Pa_meets.2.2.2 ∈ gtb := gt_sg sg_3 113 (by decide +kernel) (by decide +kernel)
theorem lb_Pa_meets : gLB m_Pa_meets 1 := ⟨w_668, w_81, by decide +kernel, by decide +kernel, by decide +kernel⟩
theorem w_665 : (Cond.methodLink "TwoAgree$Parser" (43 : Nat) ({ cls := "TwoAgree$Parser", name := "meets", desc := "(I)Z" } : MethodName)) ∈ gtb := gt_sg sg_3 110 (by decide +kernel) (by decide +kernel)
theorem w_667 : (Cond.instanceMethod ({ cls := "TwoAgree$Parser", name := "meets", desc := "(I)Z" } : MethodName)) ∈ gtb := gt_sg sg_3 112 (by decide +kernel) (by decide +kernel)
theorem w_7 : Cond.selects m_Pa_meets.1.cls m_Pa_meets.1 m_Pa_meets.1 ∈ gtb := gt_in 7 (by decide +kernel) (by decide +kernel)
theorem lv_RX6_43 : gLV RX6 43 m_Pa_meets 1 := ⟨lb_Pa_meets, w_665, w_667, w_7⟩
theorem w_284 : (Cond.fieldLink "TwoAgree$Parser" (36 : Nat) "TwoAgree$Parser" "usesDay" "Z") ∈ gtb := gt_sg sg_1 209 (by decide +kernel) (by decide +kernel)
theorem fl_RX6_36 : gFL RX6 36 6 7 (tyX6 7) false := ⟨RX6, TX6, 8, tyX6, rfl, uw_6, tyX6_ok, nmX6, by decide, w_284, tyX6_ok 7 (by decide), rfl⟩
theorem gc_27_7 : gcf 27 6 7 = some none := by decide +kernel
theorem w_660 : Cond.code m_Pa_readNumber.1 m_Pa_readNumber.2.1 m_Pa_readNumber.2.2.1 m_Pa_readNumber.2.2.2 ∈ gtb := gt_sg sg_3 105 (by decide +kernel) (by decide +kernel)
theorem lb_Pa_readNumber : gLB m_Pa_readNumber 0 := ⟨w_660, w_81, by decide +kernel, by decide +kernel, by decide +kernel⟩
theorem w_657 : (Cond.methodLink "TwoAgree$Parser" (93 : Nat) ({ cls := "TwoAgree$Parser", name := "readNumber", desc := "()V" } : MethodName)) ∈ gtb := gt_sg sg_3 102 (by decide +kernel) (by decide +kernel)
theorem w_659 : (Cond.instanceMethod ({ cls := "TwoAgree$Parser", name := "readNumber", desc := "()V" } : MethodName)) ∈ gtb := gt_sg sg_3 104 (by decide +kernel) (by decide +kernel)
theorem w_5 : Cond.selects m_Pa_readNumber.1.cls m_Pa_readNumber.1 m_Pa_readNumber.1 ∈ gtb := gt_in 5 (by decide +kernel) (by decide +kernel)
theorem lv_RX6_93 : gLV RX6 93 m_Pa_readNumber 0 := ⟨lb_Pa_readNumber, w_657, w_659, w_5⟩
abbrev m_Pa_readLine : gM := (yX6_readLine, cX6_readLine, 2, none)
abbrev m_Pa_readInto : gM := (yX6_readInto, cX6_readInto, 3, some .int)
theorem ga_7 : gia 7 = some 128 := by decide +kernel
theorem ga_8 : gia 8 = some 128 := by decide +kernel
theorem w_553 : Cond.code m_Pa_readLine.1 m_Pa_readLine.2.1 m_Pa_readLine.2.2.1 m_Pa_readLine.2.2.2 ∈ gtb := gt_sg sg_2 238 (by decide +kernel) (by decide +kernel)
theorem lb_Pa_readLine : gLB m_Pa_readLine 0 := ⟨w_553, w_81, by decide +kernel, by decide +kernel, by decide +kernel⟩
theorem w_550 : (Cond.methodLink "TwoAgree$Parser" (40 : Nat) ({ cls := "TwoAgree$Parser", name := "readLine", desc := "()V" } : MethodName)) ∈ gtb := gt_sg sg_2 235 (by decide +kernel) (by decide +kernel)
theorem w_552 : (Cond.instanceMethod ({ cls := "TwoAgree$Parser", name := "readLine", desc := "()V" } : MethodName)) ∈ gtb := gt_sg sg_2 237 (by decide +kernel) (by decide +kernel)
theorem w_1 : Cond.selects m_Pa_readLine.1.cls m_Pa_readLine.1 m_Pa_readLine.1 ∈ gtb := gt_in 1 (by decide +kernel) (by decide +kernel)
theorem lv_RX6_40 : gLV RX6 40 m_Pa_readLine 0 := ⟨lb_Pa_readLine, w_550, w_552, w_1⟩
theorem uw_4 : ∀ w ∈ u_ws RX4 TX4 6, w ∈ gtb := gmem_p [128, 130, 132, 134, 136, 138] (by decide +kernel) (by decide +kernel)
theorem w_118 : (Cond.fieldLink "TwoAgree$Parser" (50 : Nat) "TwoAgree$Law" "steps" "[I") ∈ gtb := gt_sg sg_1 43 (by decide +kernel) (by decide +kernel)
theorem fl_RX6_50 : gFL RX6 50 4 0 (tyX4 0) true := ⟨RX4, TX4, 6, tyX4, rfl, uw_4, tyX4_ok, nmX4, by decide, w_118, tyX4_ok 0 (by decide), rfl⟩
theorem gc_6_0 : gcf 6 4 0 = some (some 7) := by decide +kernel
theorem w_676 : (Cond.methodLink "TwoAgree$Parser" (51 : Nat) ({ cls := "java/lang/System", name := "arraycopy", desc := "(Ljava/lang/Object;ILjava/lang/Object;II)V" } : MethodName)) ∈ gtb := gt_sg sg_3 121 (by decide +kernel) (by decide +kernel)
theorem w_120 : (Cond.fieldLink "TwoAgree$Parser" (57 : Nat) "TwoAgree$Law" "with" "[I") ∈ gtb := gt_sg sg_1 45 (by decide +kernel) (by decide +kernel)
theorem fl_RX6_57 : gFL RX6 57 4 1 (tyX4 1) true := ⟨RX4, TX4, 6, tyX4, rfl, uw_4, tyX4_ok, nmX4, by decide, w_120, tyX4_ok 1 (by decide), rfl⟩
theorem gc_6_1 : gcf 6 4 1 = some (some 8) := by decide +kernel
theorem w_124 : (Cond.fieldLink "TwoAgree$Parser" (58 : Nat) "TwoAgree$Law" "length" "I") ∈ gtb := gt_sg sg_1 49 (by decide +kernel) (by decide +kernel)
theorem fl_RX6_58 : gFL RX6 58 4 4 (tyX4 4) false := ⟨RX4, TX4, 6, tyX4, rfl, uw_4, tyX4_ok, nmX4, by decide, w_124, tyX4_ok 4 (by decide), rfl⟩
theorem gc_6_4 : gcf 6 4 4 = some none := by decide +kernel
theorem w_126 : (Cond.fieldLink "TwoAgree$Parser" (59 : Nat) "TwoAgree$Law" "usesDay" "Z") ∈ gtb := gt_sg sg_1 51 (by decide +kernel) (by decide +kernel)
theorem fl_RX6_59 : gFL RX6 59 4 5 (tyX4 5) false := ⟨RX4, TX4, 6, tyX4, rfl, uw_4, tyX4_ok, nmX4, by decide, w_126, tyX4_ok 5 (by decide), rfl⟩
theorem gc_6_5 : gcf 6 4 5 = some none := by decide +kernel
abbrev m_T_law : gM := (yX10_law, cX10_law, 2, some .int)
theorem w_158 : (Cond.fieldLink "TwoAgree" (118 : Nat) "TwoAgree$Island" "law" "LTwoAgree$Law;") ∈ gtb := gt_sg sg_1 83 (by decide +kernel) (by decide +kernel)
theorem fl_RX10_118 : gFL RX10 118 3 4 (tyX3 4) true := ⟨RX3, TX3, 10, tyX3, rfl, uw_3, tyX3_ok, nmX3, by decide, w_158, tyX3_ok 4 (by decide), rfl⟩
theorem gc_1_4 : gcf 1 3 4 = some (some 6) := by decide +kernel
theorem w_549 : Cond.code m_Pa_readInto.1 m_Pa_readInto.2.1 m_Pa_readInto.2.2.1 m_Pa_readInto.2.2.2 ∈ gtb := gt_sg sg_2 234 (by decide +kernel) (by decide +kernel)
theorem lb_Pa_readInto : gLB m_Pa_readInto 1 := ⟨w_549, w_81, by decide +kernel, by decide +kernel, by decide +kernel⟩
theorem w_546 : (Cond.methodLink "TwoAgree" (122 : Nat) ({ cls := "TwoAgree$Parser", name := "readInto", desc := "(LTwoAgree$Law;)I" } : MethodName)) ∈ gtb := gt_sg sg_2 231 (by decide +kernel) (by decide +kernel)
theorem w_547 : (Cond.instanceMethod ({ cls := "TwoAgree$Parser", name := "readInto", desc := "(LTwoAgree$Law;)I" } : MethodName)) ∈ gtb := gt_sg sg_2 232 (by decide +kernel) (by decide +kernel)
theorem w_548 : (Cond.selects "TwoAgree$Parser" ({ cls := "TwoAgree$Parser", name := "readInto", desc := "(LTwoAgree$Law;)I" } : MethodName) ({ cls := "TwoAgree$Parser", name := "readInto", desc := "(LTwoAgree$Law;)I" } : MethodName)) ∈ gtb := gt_sg sg_2 233 (by decide +kernel) (by decide +kernel)
theorem lv_RX10_122 : gLV RX10 122 m_Pa_readInto 1 := ⟨lb_Pa_readInto, w_546, w_547, w_548⟩
abbrev m_Law_joined : gM := (yX4_joined, cX4_joined, 3, some .int)
abbrev m_Law_pop : gM := (yX4_pop, cX4_pop, 1, some .int)
theorem ga_9 : gia 9 = some 128 := by decide +kernel
theorem w_122 : (Cond.fieldLink "TwoAgree$Law" (19 : Nat) "TwoAgree$Law" "top" "I") ∈ gtb := gt_sg sg_1 47 (by decide +kernel) (by decide +kernel)
theorem fl_RX4_19 : gFL RX4 19 4 3 (tyX4 3) false := ⟨RX4, TX4, 6, tyX4, rfl, uw_4, tyX4_ok, nmX4, by decide, w_122, tyX4_ok 3 (by decide), rfl⟩
theorem gc_6_3 : gcf 6 4 3 = some none := by decide +kernel
theorem w_121 : (Cond.fieldLink "TwoAgree$Law" (16 : Nat) "TwoAgree$Law" "stack" "[I") ∈ gtb := gt_sg sg_1 46 (by decide +kernel) (by decide +kernel)
theorem fl_RX4_16 : gFL RX4 16 4 2 (tyX4 2) true := ⟨RX4, TX4, 6, tyX4, rfl, uw_4, tyX4_ok, nmX4, by decide, w_121, tyX4_ok 2 (by decide), rfl⟩
theorem gc_6_2 : gcf 6 4 2 = some (some 9) := by decide +kernel
abbrev m_Law_push : gM := (yX4_push, cX4_push, 2, none)
abbrev m_Law_value : gM := (yX4_value, cX4_value, 6, some .int)
theorem ga_10 : gia 10 = some 6 := by decide +kernel
theorem w_123 : (Cond.fieldLink "TwoAgree$Law" (23 : Nat) "TwoAgree$Law" "length" "I") ∈ gtb := gt_sg sg_1 48 (by decide +kernel) (by decide +kernel)
theorem fl_RX4_23 : gFL RX4 23 4 4 (tyX4 4) false := ⟨RX4, TX4, 6, tyX4, rfl, uw_4, tyX4_ok, nmX4, by decide, w_123, tyX4_ok 4 (by decide), rfl⟩
theorem w_117 : (Cond.fieldLink "TwoAgree$Law" (9 : Nat) "TwoAgree$Law" "steps" "[I") ∈ gtb := gt_sg sg_1 42 (by decide +kernel) (by decide +kernel)
theorem fl_RX4_9 : gFL RX4 9 4 0 (tyX4 0) true := ⟨RX4, TX4, 6, tyX4, rfl, uw_4, tyX4_ok, nmX4, by decide, w_117, tyX4_ok 0 (by decide), rfl⟩
theorem w_119 : (Cond.fieldLink "TwoAgree$Law" (13 : Nat) "TwoAgree$Law" "with" "[I") ∈ gtb := gt_sg sg_1 44 (by decide +kernel) (by decide +kernel)
theorem fl_RX4_13 : gFL RX4 13 4 1 (tyX4 1) true := ⟨RX4, TX4, 6, tyX4, rfl, uw_4, tyX4_ok, nmX4, by decide, w_119, tyX4_ok 1 (by decide), rfl⟩
theorem w_698 : Cond.code m_Law_push.1 m_Law_push.2.1 m_Law_push.2.2.1 m_Law_push.2.2.2 ∈ gtb := gt_sg sg_3 143 (by decide +kernel) (by decide +kernel)
theorem w_78 : (Cond.initialized "TwoAgree$Law") ∈ gtb := gt_sg sg_1 3 (by decide +kernel) (by decide +kernel)
theorem lb_Law_push : gLB m_Law_push 1 := ⟨w_698, w_78, by decide +kernel, by decide +kernel, by decide +kernel⟩
theorem w_695 : (Cond.methodLink "TwoAgree$Law" (26 : Nat) ({ cls := "TwoAgree$Law", name := "push", desc := "(I)V" } : MethodName)) ∈ gtb := gt_sg sg_3 140 (by decide +kernel) (by decide +kernel)
theorem w_697 : (Cond.instanceMethod ({ cls := "TwoAgree$Law", name := "push", desc := "(I)V" } : MethodName)) ∈ gtb := gt_sg sg_3 142 (by decide +kernel) (by decide +kernel)
theorem w_9 : Cond.selects m_Law_push.1.cls m_Law_push.1 m_Law_push.1 ∈ gtb := gt_in 9 (by decide +kernel) (by decide +kernel)
theorem lv_RX4_26 : gLV RX4 26 m_Law_push 1 := ⟨lb_Law_push, w_695, w_697, w_9⟩
theorem gk_6 : gcls 6 = some 4 := by decide +kernel
theorem ln_RX4_30 : gLSN RX4 30 m_T_within 2 := ⟨lb_T_within, ⟨"TwoAgree", List.mem_of_getElem? (i := 14) (by decide +kernel)⟩, w_463⟩
theorem w_703 : Cond.code m_Law_pop.1 m_Law_pop.2.1 m_Law_pop.2.2.1 m_Law_pop.2.2.2 ∈ gtb := gt_sg sg_3 148 (by decide +kernel) (by decide +kernel)
theorem lb_Law_pop : gLB m_Law_pop 0 := ⟨w_703, w_78, by decide +kernel, by decide +kernel, by decide +kernel⟩
theorem w_700 : (Cond.methodLink "TwoAgree$Law" (36 : Nat) ({ cls := "TwoAgree$Law", name := "pop", desc := "()I" } : MethodName)) ∈ gtb := gt_sg sg_3 145 (by decide +kernel) (by decide +kernel)
theorem w_702 : (Cond.instanceMethod ({ cls := "TwoAgree$Law", name := "pop", desc := "()I" } : MethodName)) ∈ gtb := gt_sg sg_3 147 (by decide +kernel) (by decide +kernel)
theorem w_10 : Cond.selects m_Law_pop.1.cls m_Law_pop.1 m_Law_pop.1 ∈ gtb := gt_in 10 (by decide +kernel) (by decide +kernel)
theorem lv_RX4_36 : gLV RX4 36 m_Law_pop 0 := ⟨lb_Law_pop, w_700, w_702, w_10⟩
theorem w_704 : (Cond.methodLink "TwoAgree$Law" (40 : Nat) ({ cls := "java/lang/Math", name := "max", desc := "(II)I" } : MethodName)) ∈ gtb := gt_sg sg_3 149 (by decide +kernel) (by decide +kernel)
theorem w_707 : Cond.code m_Law_joined.1 m_Law_joined.2.1 m_Law_joined.2.2.1 m_Law_joined.2.2.2 ∈ gtb := gt_sg sg_3 152 (by decide +kernel) (by decide +kernel)
theorem lb_Law_joined : gLB m_Law_joined 3 := ⟨w_707, w_78, by decide +kernel, by decide +kernel, by decide +kernel⟩
theorem w_706 : (Cond.static ({ cls := "TwoAgree$Law", name := "joined", desc := "(III)I" } : MethodName)) ∈ gtb := gt_sg sg_3 151 (by decide +kernel) (by decide +kernel)
theorem w_705 : (Cond.methodLink "TwoAgree$Law" (46 : Nat) ({ cls := "TwoAgree$Law", name := "joined", desc := "(III)I" } : MethodName)) ∈ gtb := gt_sg sg_3 150 (by decide +kernel) (by decide +kernel)
theorem ls_RX4_46 : gLS RX4 46 m_Law_joined 3 := ⟨lb_Law_joined, w_705, w_706⟩
abbrev m_Isl_speechAs : gM := (yX3_speechAs, cX3_speechAs, 6, some .int)
theorem w_156 : (Cond.fieldLink "TwoAgree$Island" (27 : Nat) "TwoAgree$Island" "law" "LTwoAgree$Law;") ∈ gtb := gt_sg sg_1 81 (by decide +kernel) (by decide +kernel)
theorem fl_RX3_27 : gFL RX3 27 3 4 (tyX3 4) true := ⟨RX3, TX3, 10, tyX3, rfl, uw_3, tyX3_ok, nmX3, by decide, w_156, tyX3_ok 4 (by decide), rfl⟩
theorem w_125 : (Cond.fieldLink "TwoAgree$Island" (78 : Nat) "TwoAgree$Law" "length" "I") ∈ gtb := gt_sg sg_1 50 (by decide +kernel) (by decide +kernel)
theorem fl_RX3_78 : gFL RX3 78 4 4 (tyX4 4) false := ⟨RX4, TX4, 6, tyX4, rfl, uw_4, tyX4_ok, nmX4, by decide, w_125, tyX4_ok 4 (by decide), rfl⟩
theorem w_690 : (Cond.methodLink "TwoAgree$Island" (81 : Nat) ({ cls := "java/lang/Math", name := "min", desc := "(II)I" } : MethodName)) ∈ gtb := gt_sg sg_3 135 (by decide +kernel) (by decide +kernel)
theorem w_159 : (Cond.fieldLink "TwoAgree$Island" (31 : Nat) "TwoAgree$Island" "names" "[I") ∈ gtb := gt_sg sg_1 84 (by decide +kernel) (by decide +kernel)
theorem fl_RX3_31 : gFL RX3 31 3 5 (tyX3 5) true := ⟨RX3, TX3, 10, tyX3, rfl, uw_3, tyX3_ok, nmX3, by decide, w_159, tyX3_ok 5 (by decide), rfl⟩
theorem gc_1_5 : gcf 1 3 5 = some (some 10) := by decide +kernel
theorem w_694 : Cond.code m_Law_value.1 m_Law_value.2.1 m_Law_value.2.2.1 m_Law_value.2.2.2 ∈ gtb := gt_sg sg_3 139 (by decide +kernel) (by decide +kernel)
theorem lb_Law_value : gLB m_Law_value 1 := ⟨w_694, w_78, by decide +kernel, by decide +kernel, by decide +kernel⟩
theorem w_691 : (Cond.methodLink "TwoAgree$Island" (87 : Nat) ({ cls := "TwoAgree$Law", name := "value", desc := "([I)I" } : MethodName)) ∈ gtb := gt_sg sg_3 136 (by decide +kernel) (by decide +kernel)
theorem w_692 : (Cond.instanceMethod ({ cls := "TwoAgree$Law", name := "value", desc := "([I)I" } : MethodName)) ∈ gtb := gt_sg sg_3 137 (by decide +kernel) (by decide +kernel)
theorem w_693 : (Cond.selects "TwoAgree$Law" ({ cls := "TwoAgree$Law", name := "value", desc := "([I)I" } : MethodName) ({ cls := "TwoAgree$Law", name := "value", desc := "([I)I" } : MethodName)) ∈ gtb := gt_sg sg_3 138 (by decide +kernel) (by decide +kernel)
theorem lv_RX3_87 : gLV RX3 87 m_Law_value 1 := ⟨lb_Law_value, w_691, w_692, w_693⟩
theorem w_708 : (Cond.methodLink "TwoAgree$Island" (91 : Nat) ({ cls := "java/lang/Math", name := "max", desc := "(II)I" } : MethodName)) ∈ gtb := gt_sg sg_3 153 (by decide +kernel) (by decide +kernel)
abbrev m_Isl_speechNow : gM := (yX3_speechNow, cX3_speechNow, 2, some .int)
theorem w_689 : Cond.code m_Isl_speechAs.1 m_Isl_speechAs.2.1 m_Isl_speechAs.2.2.1 m_Isl_speechAs.2.2.2 ∈ gtb := gt_sg sg_3 134 (by decide +kernel) (by decide +kernel)
theorem lb_Isl_speechAs : gLB m_Isl_speechAs 5 := ⟨w_689, w_77, by decide +kernel, by decide +kernel, by decide +kernel⟩
theorem w_686 : (Cond.methodLink "TwoAgree$Island" (74 : Nat) ({ cls := "TwoAgree$Island", name := "speechAs", desc := "(IIIII)I" } : MethodName)) ∈ gtb := gt_sg sg_3 131 (by decide +kernel) (by decide +kernel)
theorem w_687 : (Cond.instanceMethod ({ cls := "TwoAgree$Island", name := "speechAs", desc := "(IIIII)I" } : MethodName)) ∈ gtb := gt_sg sg_3 132 (by decide +kernel) (by decide +kernel)
theorem w_688 : (Cond.selects "TwoAgree$Island" ({ cls := "TwoAgree$Island", name := "speechAs", desc := "(IIIII)I" } : MethodName) ({ cls := "TwoAgree$Island", name := "speechAs", desc := "(IIIII)I" } : MethodName)) ∈ gtb := gt_sg sg_3 133 (by decide +kernel) (by decide +kernel)
theorem lv_RX3_74 : gLV RX3 74 m_Isl_speechAs 5 := ⟨lb_Isl_speechAs, w_686, w_687, w_688⟩
abbrev m_T_says : gM := (yX10_says, cX10_says, 2, some .int)
theorem w_163 : (Cond.fieldLink "TwoAgree" (126 : Nat) "TwoAgree$Island" "size" "I") ∈ gtb := gt_sg sg_1 88 (by decide +kernel) (by decide +kernel)
theorem fl_RX10_126 : gFL RX10 126 3 6 (tyX3 6) false := ⟨RX3, TX3, 10, tyX3, rfl, uw_3, tyX3_ok, nmX3, by decide, w_163, tyX3_ok 6 (by decide), rfl⟩
theorem w_685 : Cond.code m_Isl_speechNow.1 m_Isl_speechNow.2.1 m_Isl_speechNow.2.2.1 m_Isl_speechNow.2.2.2 ∈ gtb := gt_sg sg_3 130 (by decide +kernel) (by decide +kernel)
theorem lb_Isl_speechNow : gLB m_Isl_speechNow 1 := ⟨w_685, w_77, by decide +kernel, by decide +kernel, by decide +kernel⟩
theorem w_682 : (Cond.methodLink "TwoAgree" (129 : Nat) ({ cls := "TwoAgree$Island", name := "speechNow", desc := "(I)I" } : MethodName)) ∈ gtb := gt_sg sg_3 127 (by decide +kernel) (by decide +kernel)
theorem w_683 : (Cond.instanceMethod ({ cls := "TwoAgree$Island", name := "speechNow", desc := "(I)I" } : MethodName)) ∈ gtb := gt_sg sg_3 128 (by decide +kernel) (by decide +kernel)
theorem w_684 : (Cond.selects "TwoAgree$Island" ({ cls := "TwoAgree$Island", name := "speechNow", desc := "(I)I" } : MethodName) ({ cls := "TwoAgree$Island", name := "speechNow", desc := "(I)I" } : MethodName)) ∈ gtb := gt_sg sg_3 129 (by decide +kernel) (by decide +kernel)
theorem lv_RX10_129 : gLV RX10 129 m_Isl_speechNow 1 := ⟨lb_Isl_speechNow, w_682, w_683, w_684⟩
abbrev m_Cr_agree : gM := (yX2_agree, cX2_agree, 3, some .boolean)
theorem gp_2_1 {c : Nat} (h : gcls c = some 2) : gia (c + 2) = some 10 := gcls_all 2 (fun c => gia (c + 2) = some 10) (by decide +kernel) c h
theorem gq_2_1 {c : Nat} (h : gcls c = some 2) : gcf c 2 1 = some (some (c + 2)) := gcls_all 2 (fun c => gcf c 2 1 = some (some (c + 2))) (by decide +kernel) c h
theorem gp_2_0 {c : Nat} (h : gcls c = some 2) : gia (c + 1) = some 10 := gcls_all 2 (fun c => gia (c + 1) = some 10) (by decide +kernel) c h
theorem gq_2_0 {c : Nat} (h : gcls c = some 2) : gcf c 2 0 = some (some (c + 1)) := gcls_all 2 (fun c => gcf c 2 0 = some (some (c + 1))) (by decide +kernel) c h
theorem uw_2 : ∀ w ∈ u_ws RX2 TX2 8, w ∈ gtb := gmem_p [213, 215, 217, 219, 221, 223, 225, 227] (by decide +kernel) (by decide +kernel)
theorem w_203 : (Cond.fieldLink "TwoAgree$Crowd" (15 : Nat) "TwoAgree$Crowd" "kin" "[I") ∈ gtb := gt_sg sg_1 128 (by decide +kernel) (by decide +kernel)
theorem fl_RX2_15 : gFL RX2 15 2 1 (tyX2 1) true := ⟨RX2, TX2, 8, tyX2, rfl, uw_2, tyX2_ok, nmX2, by decide, w_203, tyX2_ok 1 (by decide), rfl⟩
theorem w_200 : (Cond.fieldLink "TwoAgree$Crowd" (9 : Nat) "TwoAgree$Crowd" "said" "[I") ∈ gtb := gt_sg sg_1 125 (by decide +kernel) (by decide +kernel)
theorem fl_RX2_9 : gFL RX2 9 2 0 (tyX2 0) true := ⟨RX2, TX2, 8, tyX2, rfl, uw_2, tyX2_ok, nmX2, by decide, w_200, tyX2_ok 0 (by decide), rfl⟩
theorem w_750 : (Cond.static ({ cls := "java/lang/Math", name := "abs", desc := "(I)I" } : MethodName)) ∈ gtb := gt_sg sg_3 195 (by decide +kernel) (by decide +kernel)
theorem wc_abs : Cond.code Lib.Math.abs.name Lib.Math.abs.code 1 (some .int) ∈ gtb := gt_sg sg_3 196 (by decide +kernel) (by decide +kernel)
theorem w_749 : (Cond.methodLink "TwoAgree$Crowd" (93 : Nat) ({ cls := "java/lang/Math", name := "abs", desc := "(I)I" } : MethodName)) ∈ gtb := gt_sg sg_3 194 (by decide +kernel) (by decide +kernel)
theorem w_208 : (Cond.fieldLink "TwoAgree$Crowd" (56 : Nat) "TwoAgree$Crowd" "wide" "I") ∈ gtb := gt_sg sg_1 133 (by decide +kernel) (by decide +kernel)
theorem fl_RX2_56 : gFL RX2 56 2 3 (tyX2 3) false := ⟨RX2, TX2, 8, tyX2, rfl, uw_2, tyX2_ok, nmX2, by decide, w_208, tyX2_ok 3 (by decide), rfl⟩
theorem gq_2_3 {c : Nat} (h : gcls c = some 2) : gcf c 2 3 = some none := gcls_all 2 (fun c => gcf c 2 3 = some none) (by decide +kernel) c h
abbrev m_Cr_agreeing : gM := (yX2_agreeing, cX2_agreeing, 4, some .int)
theorem w_207 : (Cond.fieldLink "TwoAgree$Crowd" (52 : Nat) "TwoAgree$Crowd" "size" "I") ∈ gtb := gt_sg sg_1 132 (by decide +kernel) (by decide +kernel)
theorem fl_RX2_52 : gFL RX2 52 2 2 (tyX2 2) false := ⟨RX2, TX2, 8, tyX2, rfl, uw_2, tyX2_ok, nmX2, by decide, w_207, tyX2_ok 2 (by decide), rfl⟩
theorem gq_2_2 {c : Nat} (h : gcls c = some 2) : gcf c 2 2 = some none := gcls_all 2 (fun c => gcf c 2 2 = some none) (by decide +kernel) c h
theorem w_748 : Cond.code m_Cr_agree.1 m_Cr_agree.2.1 m_Cr_agree.2.2.1 m_Cr_agree.2.2.2 ∈ gtb := gt_sg sg_3 193 (by decide +kernel) (by decide +kernel)
theorem w_79 : (Cond.initialized "TwoAgree$Crowd") ∈ gtb := gt_sg sg_1 4 (by decide +kernel) (by decide +kernel)
theorem lb_Cr_agree : gLB m_Cr_agree 2 := ⟨w_748, w_79, by decide +kernel, by decide +kernel, by decide +kernel⟩
theorem w_745 : (Cond.methodLink "TwoAgree$Crowd" (100 : Nat) ({ cls := "TwoAgree$Crowd", name := "agree", desc := "(II)Z" } : MethodName)) ∈ gtb := gt_sg sg_3 190 (by decide +kernel) (by decide +kernel)
theorem w_746 : (Cond.instanceMethod ({ cls := "TwoAgree$Crowd", name := "agree", desc := "(II)Z" } : MethodName)) ∈ gtb := gt_sg sg_3 191 (by decide +kernel) (by decide +kernel)
theorem w_747 : (Cond.selects "TwoAgree$Crowd" ({ cls := "TwoAgree$Crowd", name := "agree", desc := "(II)Z" } : MethodName) ({ cls := "TwoAgree$Crowd", name := "agree", desc := "(II)Z" } : MethodName)) ∈ gtb := gt_sg sg_3 192 (by decide +kernel) (by decide +kernel)
theorem lv_RX2_100 : gLV RX2 100 m_Cr_agree 2 := ⟨lb_Cr_agree, w_745, w_746, w_747⟩
abbrev m_Cr_gather : gM := (yX2_gather, cX2_gather, 5, none)
theorem w_162 : (Cond.fieldLink "TwoAgree$Crowd" (43 : Nat) "TwoAgree$Island" "size" "I") ∈ gtb := gt_sg sg_1 87 (by decide +kernel) (by decide +kernel)
theorem fl_RX2_43 : gFL RX2 43 3 6 (tyX3 6) false := ⟨RX3, TX3, 10, tyX3, rfl, uw_3, tyX3_ok, nmX3, by decide, w_162, tyX3_ok 6 (by decide), rfl⟩
theorem w_721 : (Cond.methodLink "TwoAgree$Crowd" (46 : Nat) ({ cls := "java/lang/Math", name := "min", desc := "(II)I" } : MethodName)) ∈ gtb := gt_sg sg_3 166 (by decide +kernel) (by decide +kernel)
theorem w_166 : (Cond.fieldLink "TwoAgree$Crowd" (53 : Nat) "TwoAgree$Island" "wide" "I") ∈ gtb := gt_sg sg_1 91 (by decide +kernel) (by decide +kernel)
theorem fl_RX2_53 : gFL RX2 53 3 8 (tyX3 8) false := ⟨RX3, TX3, 10, tyX3, rfl, uw_3, tyX3_ok, nmX3, by decide, w_166, tyX3_ok 8 (by decide), rfl⟩
theorem w_144 : (Cond.fieldLink "TwoAgree$Crowd" (57 : Nat) "TwoAgree$Island" "kin" "[I") ∈ gtb := gt_sg sg_1 69 (by decide +kernel) (by decide +kernel)
theorem fl_RX2_57 : gFL RX2 57 3 0 (tyX3 0) true := ⟨RX3, TX3, 10, tyX3, rfl, uw_3, tyX3_ok, nmX3, by decide, w_144, tyX3_ok 0 (by decide), rfl⟩
theorem w_147 : (Cond.fieldLink "TwoAgree$Crowd" (58 : Nat) "TwoAgree$Island" "eye" "[I") ∈ gtb := gt_sg sg_1 72 (by decide +kernel) (by decide +kernel)
theorem fl_RX2_58 : gFL RX2 58 3 1 (tyX3 1) true := ⟨RX3, TX3, 10, tyX3, rfl, uw_3, tyX3_ok, nmX3, by decide, w_147, tyX3_ok 1 (by decide), rfl⟩
theorem w_722 : (Cond.methodLink "TwoAgree$Crowd" (61 : Nat) ({ cls := "TwoAgree$Island", name := "speechAs", desc := "(IIIII)I" } : MethodName)) ∈ gtb := gt_sg sg_3 167 (by decide +kernel) (by decide +kernel)
theorem lv_RX2_61 : gLV RX2 61 m_Isl_speechAs 5 := ⟨lb_Isl_speechAs, w_722, w_687, w_688⟩
abbrev m_Cr_gatherNow : gM := (yX2_gatherNow, cX2_gatherNow, 2, none)
theorem w_164 : (Cond.fieldLink "TwoAgree$Crowd" (30 : Nat) "TwoAgree$Island" "falls" "I") ∈ gtb := gt_sg sg_1 89 (by decide +kernel) (by decide +kernel)
theorem fl_RX2_30 : gFL RX2 30 3 7 (tyX3 7) false := ⟨RX3, TX3, 10, tyX3, rfl, uw_3, tyX3_ok, nmX3, by decide, w_164, tyX3_ok 7 (by decide), rfl⟩
theorem w_169 : (Cond.fieldLink "TwoAgree$Crowd" (36 : Nat) "TwoAgree$Island" "day" "I") ∈ gtb := gt_sg sg_1 94 (by decide +kernel) (by decide +kernel)
theorem fl_RX2_36 : gFL RX2 36 3 9 (tyX3 9) false := ⟨RX3, TX3, 10, tyX3, rfl, uw_3, tyX3_ok, nmX3, by decide, w_169, tyX3_ok 9 (by decide), rfl⟩
theorem w_720 : Cond.code m_Cr_gather.1 m_Cr_gather.2.1 m_Cr_gather.2.2.1 m_Cr_gather.2.2.2 ∈ gtb := gt_sg sg_3 165 (by decide +kernel) (by decide +kernel)
theorem lb_Cr_gather : gLB m_Cr_gather 3 := ⟨w_720, w_79, by decide +kernel, by decide +kernel, by decide +kernel⟩
theorem w_717 : (Cond.methodLink "TwoAgree$Crowd" (39 : Nat) ({ cls := "TwoAgree$Crowd", name := "gather", desc := "(LTwoAgree$Island;II)V" } : MethodName)) ∈ gtb := gt_sg sg_3 162 (by decide +kernel) (by decide +kernel)
theorem w_718 : (Cond.instanceMethod ({ cls := "TwoAgree$Crowd", name := "gather", desc := "(LTwoAgree$Island;II)V" } : MethodName)) ∈ gtb := gt_sg sg_3 163 (by decide +kernel) (by decide +kernel)
theorem w_719 : (Cond.selects "TwoAgree$Crowd" ({ cls := "TwoAgree$Crowd", name := "gather", desc := "(LTwoAgree$Island;II)V" } : MethodName) ({ cls := "TwoAgree$Crowd", name := "gather", desc := "(LTwoAgree$Island;II)V" } : MethodName)) ∈ gtb := gt_sg sg_3 164 (by decide +kernel) (by decide +kernel)
theorem lv_RX2_39 : gLV RX2 39 m_Cr_gather 3 := ⟨lb_Cr_gather, w_717, w_718, w_719⟩
abbrev m_JI_bitCount : gM := (yJ6_bitCount_0f7a4, cJ6_bitCount_0f7a4, 1, some .int)
theorem w_738 : (Cond.constant "java/lang/Integer" (265 : Nat) (1431655765 : Int32)) ∈ gtb := gt_sg sg_3 183 (by decide +kernel) (by decide +kernel)
theorem w_739 : (Cond.constant "java/lang/Integer" (266 : Nat) (858993459 : Int32)) ∈ gtb := gt_sg sg_3 184 (by decide +kernel) (by decide +kernel)
theorem w_740 : (Cond.constant "java/lang/Integer" (267 : Nat) (252645135 : Int32)) ∈ gtb := gt_sg sg_3 185 (by decide +kernel) (by decide +kernel)
abbrev m_Cr_isSaidByTwo : gM := (yX2_isSaidByTwo, cX2_isSaidByTwo, 4, some .boolean)
theorem gp_2_4 {c : Nat} (h : gcls c = some 2) : gia (c + 3) = some 6 := gcls_all 2 (fun c => gia (c + 3) = some 6) (by decide +kernel) c h
theorem gq_2_4 {c : Nat} (h : gcls c = some 2) : gcf c 2 4 = some (some (c + 3)) := gcls_all 2 (fun c => gcf c 2 4 = some (some (c + 3))) (by decide +kernel) c h
theorem w_209 : (Cond.fieldLink "TwoAgree$Crowd" (18 : Nat) "TwoAgree$Crowd" "families" "[I") ∈ gtb := gt_sg sg_1 134 (by decide +kernel) (by decide +kernel)
theorem fl_RX2_18 : gFL RX2 18 2 4 (tyX2 4) true := ⟨RX2, TX2, 8, tyX2, rfl, uw_2, tyX2_ok, nmX2, by decide, w_209, tyX2_ok 4 (by decide), rfl⟩
theorem w_737 : Cond.code m_JI_bitCount.1 m_JI_bitCount.2.1 m_JI_bitCount.2.2.1 m_JI_bitCount.2.2.2 ∈ gtb := gt_sg sg_3 182 (by decide +kernel) (by decide +kernel)
theorem w_96 : (Cond.initialized "java/lang/Integer") ∈ gtb := gt_sg sg_1 21 (by decide +kernel) (by decide +kernel)
theorem lb_JI_bitCount : gLB m_JI_bitCount 1 := ⟨w_737, w_96, by decide +kernel, by decide +kernel, by decide +kernel⟩
theorem w_736 : (Cond.static ({ cls := "java/lang/Integer", name := "bitCount", desc := "(I)I" } : MethodName)) ∈ gtb := gt_sg sg_3 181 (by decide +kernel) (by decide +kernel)
theorem w_735 : (Cond.methodLink "TwoAgree$Crowd" (107 : Nat) ({ cls := "java/lang/Integer", name := "bitCount", desc := "(I)I" } : MethodName)) ∈ gtb := gt_sg sg_3 180 (by decide +kernel) (by decide +kernel)
theorem ls_RX2_107 : gLS RX2 107 m_JI_bitCount 1 := ⟨lb_JI_bitCount, w_735, w_736⟩
abbrev m_Cr_happened : gM := (yX2_happened, cX2_happened, 4, some .int)
abbrev m_JA_fill : gM := (yJ7_fill_53178, cJ7_fill_53178, 4, none)
theorem w_729 : Cond.code m_JA_fill.1 m_JA_fill.2.1 m_JA_fill.2.2.1 m_JA_fill.2.2.2 ∈ gtb := gt_sg sg_3 174 (by decide +kernel) (by decide +kernel)
theorem w_95 : (Cond.initialized "java/util/Arrays") ∈ gtb := gt_sg sg_1 20 (by decide +kernel) (by decide +kernel)
theorem lb_JA_fill : gLB m_JA_fill 2 := ⟨w_729, w_95, by decide +kernel, by decide +kernel, by decide +kernel⟩
theorem w_728 : (Cond.static ({ cls := "java/util/Arrays", name := "fill", desc := "([II)V" } : MethodName)) ∈ gtb := gt_sg sg_3 173 (by decide +kernel) (by decide +kernel)
theorem w_727 : (Cond.methodLink "TwoAgree$Crowd" (65 : Nat) ({ cls := "java/util/Arrays", name := "fill", desc := "([II)V" } : MethodName)) ∈ gtb := gt_sg sg_3 172 (by decide +kernel) (by decide +kernel)
theorem ls_RX2_65 : gLS RX2 65 m_JA_fill 2 := ⟨lb_JA_fill, w_727, w_728⟩
theorem w_734 : Cond.code m_Cr_isSaidByTwo.1 m_Cr_isSaidByTwo.2.1 m_Cr_isSaidByTwo.2.2.1 m_Cr_isSaidByTwo.2.2.2 ∈ gtb := gt_sg sg_3 179 (by decide +kernel) (by decide +kernel)
theorem lb_Cr_isSaidByTwo : gLB m_Cr_isSaidByTwo 1 := ⟨w_734, w_79, by decide +kernel, by decide +kernel, by decide +kernel⟩
theorem w_731 : (Cond.methodLink "TwoAgree$Crowd" (103 : Nat) ({ cls := "TwoAgree$Crowd", name := "isSaidByTwo", desc := "(I)Z" } : MethodName)) ∈ gtb := gt_sg sg_3 176 (by decide +kernel) (by decide +kernel)
theorem w_733 : (Cond.instanceMethod ({ cls := "TwoAgree$Crowd", name := "isSaidByTwo", desc := "(I)Z" } : MethodName)) ∈ gtb := gt_sg sg_3 178 (by decide +kernel) (by decide +kernel)
theorem w_11 : Cond.selects m_Cr_isSaidByTwo.1.cls m_Cr_isSaidByTwo.1 m_Cr_isSaidByTwo.1 ∈ gtb := gt_in 11 (by decide +kernel) (by decide +kernel)
theorem lv_RX2_103 : gLV RX2 103 m_Cr_isSaidByTwo 1 := ⟨lb_Cr_isSaidByTwo, w_731, w_733, w_11⟩
theorem ln_RX2_81 : gLSN RX2 81 m_T_within 2 := ⟨lb_T_within, ⟨"TwoAgree", List.mem_of_getElem? (i := 15) (by decide +kernel)⟩, w_463⟩
abbrev m_T_all : gM := (yX10_all, cX10_all, 2, some .int)
theorem w_431 : (Cond.fieldLink "TwoAgree" (19 : Nat) "TwoAgree" "crowd" "LTwoAgree$Crowd;") ∈ gtb := gt_sg sg_2 116 (by decide +kernel) (by decide +kernel)
theorem fl_RX10_19 : gFL RX10 19 10 1 (tyX10 1) true := ⟨RX10, TX10, 9, tyX10, rfl, uw_10, tyX10_ok, nmX10, by decide, w_431, tyX10_ok 1 (by decide), rfl⟩
theorem gc_0_1 : gcf 0 10 1 = some (some 11) := by decide +kernel
theorem gk_11 : gcls 11 = some 2 := by decide +kernel
theorem w_716 : Cond.code m_Cr_gatherNow.1 m_Cr_gatherNow.2.1 m_Cr_gatherNow.2.2.1 m_Cr_gatherNow.2.2.2 ∈ gtb := gt_sg sg_3 161 (by decide +kernel) (by decide +kernel)
theorem lb_Cr_gatherNow : gLB m_Cr_gatherNow 1 := ⟨w_716, w_79, by decide +kernel, by decide +kernel, by decide +kernel⟩
theorem w_713 : (Cond.methodLink "TwoAgree" (132 : Nat) ({ cls := "TwoAgree$Crowd", name := "gatherNow", desc := "(LTwoAgree$Island;)V" } : MethodName)) ∈ gtb := gt_sg sg_3 158 (by decide +kernel) (by decide +kernel)
theorem w_714 : (Cond.instanceMethod ({ cls := "TwoAgree$Crowd", name := "gatherNow", desc := "(LTwoAgree$Island;)V" } : MethodName)) ∈ gtb := gt_sg sg_3 159 (by decide +kernel) (by decide +kernel)
theorem w_715 : (Cond.selects "TwoAgree$Crowd" ({ cls := "TwoAgree$Crowd", name := "gatherNow", desc := "(LTwoAgree$Island;)V" } : MethodName) ({ cls := "TwoAgree$Crowd", name := "gatherNow", desc := "(LTwoAgree$Island;)V" } : MethodName)) ∈ gtb := gt_sg sg_3 160 (by decide +kernel) (by decide +kernel)
theorem lv_RX10_132 : gLV RX10 132 m_Cr_gatherNow 1 := ⟨lb_Cr_gatherNow, w_713, w_714, w_715⟩
theorem w_726 : Cond.code m_Cr_happened.1 m_Cr_happened.2.1 m_Cr_happened.2.2.1 m_Cr_happened.2.2.2 ∈ gtb := gt_sg sg_3 171 (by decide +kernel) (by decide +kernel)
theorem lb_Cr_happened : gLB m_Cr_happened 1 := ⟨w_726, w_79, by decide +kernel, by decide +kernel, by decide +kernel⟩
theorem w_723 : (Cond.methodLink "TwoAgree" (136 : Nat) ({ cls := "TwoAgree$Crowd", name := "happened", desc := "(I)I" } : MethodName)) ∈ gtb := gt_sg sg_3 168 (by decide +kernel) (by decide +kernel)
theorem w_724 : (Cond.instanceMethod ({ cls := "TwoAgree$Crowd", name := "happened", desc := "(I)I" } : MethodName)) ∈ gtb := gt_sg sg_3 169 (by decide +kernel) (by decide +kernel)
theorem w_725 : (Cond.selects "TwoAgree$Crowd" ({ cls := "TwoAgree$Crowd", name := "happened", desc := "(I)I" } : MethodName) ({ cls := "TwoAgree$Crowd", name := "happened", desc := "(I)I" } : MethodName)) ∈ gtb := gt_sg sg_3 170 (by decide +kernel) (by decide +kernel)
theorem lv_RX10_136 : gLV RX10 136 m_Cr_happened 1 := ⟨lb_Cr_happened, w_723, w_724, w_725⟩
theorem w_744 : Cond.code m_Cr_agreeing.1 m_Cr_agreeing.2.1 m_Cr_agreeing.2.2.1 m_Cr_agreeing.2.2.2 ∈ gtb := gt_sg sg_3 189 (by decide +kernel) (by decide +kernel)
theorem lb_Cr_agreeing : gLB m_Cr_agreeing 0 := ⟨w_744, w_79, by decide +kernel, by decide +kernel, by decide +kernel⟩
theorem w_741 : (Cond.methodLink "TwoAgree" (139 : Nat) ({ cls := "TwoAgree$Crowd", name := "agreeing", desc := "()I" } : MethodName)) ∈ gtb := gt_sg sg_3 186 (by decide +kernel) (by decide +kernel)
theorem w_742 : (Cond.instanceMethod ({ cls := "TwoAgree$Crowd", name := "agreeing", desc := "()I" } : MethodName)) ∈ gtb := gt_sg sg_3 187 (by decide +kernel) (by decide +kernel)
theorem w_743 : (Cond.selects "TwoAgree$Crowd" ({ cls := "TwoAgree$Crowd", name := "agreeing", desc := "()I" } : MethodName) ({ cls := "TwoAgree$Crowd", name := "agreeing", desc := "()I" } : MethodName)) ∈ gtb := gt_sg sg_3 188 (by decide +kernel) (by decide +kernel)
theorem lv_RX10_139 : gLV RX10 139 m_Cr_agreeing 0 := ⟨lb_Cr_agreeing, w_741, w_742, w_743⟩
abbrev m_Cr_speakers : gM := (yX2_speakers, cX2_speakers, 5, some .int)
abbrev m_T_saying : gM := (yX10_saying, cX10_saying, 2, some .int)
theorem w_759 : Cond.code m_Cr_speakers.1 m_Cr_speakers.2.1 m_Cr_speakers.2.2.1 m_Cr_speakers.2.2.2 ∈ gtb := gt_sg sg_3 204 (by decide +kernel) (by decide +kernel)
theorem lb_Cr_speakers : gLB m_Cr_speakers 2 := ⟨w_759, w_79, by decide +kernel, by decide +kernel, by decide +kernel⟩
theorem w_756 : (Cond.methodLink "TwoAgree" (143 : Nat) ({ cls := "TwoAgree$Crowd", name := "speakers", desc := "(II)I" } : MethodName)) ∈ gtb := gt_sg sg_3 201 (by decide +kernel) (by decide +kernel)
theorem w_757 : (Cond.instanceMethod ({ cls := "TwoAgree$Crowd", name := "speakers", desc := "(II)I" } : MethodName)) ∈ gtb := gt_sg sg_3 202 (by decide +kernel) (by decide +kernel)
theorem w_758 : (Cond.selects "TwoAgree$Crowd" ({ cls := "TwoAgree$Crowd", name := "speakers", desc := "(II)I" } : MethodName) ({ cls := "TwoAgree$Crowd", name := "speakers", desc := "(II)I" } : MethodName)) ∈ gtb := gt_sg sg_3 203 (by decide +kernel) (by decide +kernel)
theorem lv_RX10_143 : gLV RX10 143 m_Cr_speakers 2 := ⟨lb_Cr_speakers, w_756, w_757, w_758⟩
abbrev m_T_has : gM := (yX10_has, cX10_has, 2, some .boolean)
abbrev m_Cr_metBy : gM := (yX2_metBy, cX2_metBy, 5, some .int)
theorem w_775 : Cond.code m_T_has.1 m_T_has.2.1 m_T_has.2.2.1 m_T_has.2.2.2 ∈ gtb := gt_sg sg_3 220 (by decide +kernel) (by decide +kernel)
theorem lb_T_has : gLB m_T_has 2 := ⟨w_775, w_76, by decide +kernel, by decide +kernel, by decide +kernel⟩
theorem w_774 : (Cond.static ({ cls := "TwoAgree", name := "has", desc := "(II)Z" } : MethodName)) ∈ gtb := gt_sg sg_3 219 (by decide +kernel) (by decide +kernel)
theorem ln_RX2_97 : gLSN RX2 97 m_T_has 2 := ⟨lb_T_has, ⟨"TwoAgree", List.mem_of_getElem? (i := 16) (by decide +kernel)⟩, w_774⟩
abbrev m_Sh_refusal : gM := (yX8_refusal, cX8_refusal, 1, some .int)
abbrev m_T_claims : gM := (yX10_claims, cX10_claims, 10, some .int)
theorem w_767 : Cond.code m_Sh_refusal.1 m_Sh_refusal.2.1 m_Sh_refusal.2.2.1 m_Sh_refusal.2.2.2 ∈ gtb := gt_sg sg_3 212 (by decide +kernel) (by decide +kernel)
theorem lb_Sh_refusal : gLB m_Sh_refusal 0 := ⟨w_767, w_86, by decide +kernel, by decide +kernel, by decide +kernel⟩
theorem w_764 : (Cond.methodLink "TwoAgree" (146 : Nat) ({ cls := "TwoAgree$Shelf", name := "refusal", desc := "()I" } : MethodName)) ∈ gtb := gt_sg sg_3 209 (by decide +kernel) (by decide +kernel)
theorem w_765 : (Cond.instanceMethod ({ cls := "TwoAgree$Shelf", name := "refusal", desc := "()I" } : MethodName)) ∈ gtb := gt_sg sg_3 210 (by decide +kernel) (by decide +kernel)
theorem w_766 : (Cond.selects "TwoAgree$Shelf" ({ cls := "TwoAgree$Shelf", name := "refusal", desc := "()I" } : MethodName) ({ cls := "TwoAgree$Shelf", name := "refusal", desc := "()I" } : MethodName)) ∈ gtb := gt_sg sg_3 211 (by decide +kernel) (by decide +kernel)
theorem lv_RX10_146 : gLV RX10 146 m_Sh_refusal 0 := ⟨lb_Sh_refusal, w_764, w_765, w_766⟩
theorem w_776 : (Cond.methodLink "TwoAgree" (155 : Nat) ({ cls := "java/lang/Integer", name := "bitCount", desc := "(I)I" } : MethodName)) ∈ gtb := gt_sg sg_3 221 (by decide +kernel) (by decide +kernel)
theorem ls_RX10_155 : gLS RX10 155 m_JI_bitCount 1 := ⟨lb_JI_bitCount, w_776, w_736⟩
theorem w_768 : (Cond.methodLink "TwoAgree" (149 : Nat) ({ cls := "TwoAgree$Shelf", name := "small", desc := "(I)I" } : MethodName)) ∈ gtb := gt_sg sg_3 213 (by decide +kernel) (by decide +kernel)
theorem lv_RX10_149 : gLV RX10 149 m_Sh_small 1 := ⟨lb_Sh_small, w_768, w_486, w_487⟩
theorem w_772 : Cond.code m_Cr_metBy.1 m_Cr_metBy.2.1 m_Cr_metBy.2.2.1 m_Cr_metBy.2.2.2 ∈ gtb := gt_sg sg_3 217 (by decide +kernel) (by decide +kernel)
theorem lb_Cr_metBy : gLB m_Cr_metBy 2 := ⟨w_772, w_79, by decide +kernel, by decide +kernel, by decide +kernel⟩
theorem w_769 : (Cond.methodLink "TwoAgree" (152 : Nat) ({ cls := "TwoAgree$Crowd", name := "metBy", desc := "(II)I" } : MethodName)) ∈ gtb := gt_sg sg_3 214 (by decide +kernel) (by decide +kernel)
theorem w_770 : (Cond.instanceMethod ({ cls := "TwoAgree$Crowd", name := "metBy", desc := "(II)I" } : MethodName)) ∈ gtb := gt_sg sg_3 215 (by decide +kernel) (by decide +kernel)
theorem w_771 : (Cond.selects "TwoAgree$Crowd" ({ cls := "TwoAgree$Crowd", name := "metBy", desc := "(II)I" } : MethodName) ({ cls := "TwoAgree$Crowd", name := "metBy", desc := "(II)I" } : MethodName)) ∈ gtb := gt_sg sg_3 216 (by decide +kernel) (by decide +kernel)
theorem lv_RX10_152 : gLV RX10 152 m_Cr_metBy 2 := ⟨lb_Cr_metBy, w_769, w_770, w_771⟩
abbrev m_T_happens : gM := (yX10_happens, cX10_happens, 6, some .int)
theorem w_781 : (Cond.methodLink "TwoAgree" (160 : Nat) ({ cls := "TwoAgree", name := "has", desc := "(II)Z" } : MethodName)) ∈ gtb := gt_sg sg_3 226 (by decide +kernel) (by decide +kernel)
theorem ls_RX10_160 : gLS RX10 160 m_T_has 2 := ⟨lb_T_has, w_781, w_774⟩
abbrev m_Br_begin : gM := (yX0_begin, cX0_begin, 3, none)
theorem ga_26 : gia 26 = some 10 := by decide +kernel
theorem uw_0 : ∀ w ∈ u_ws RX0 TX0 9, w ∈ gtb := gmem_p [251, 253, 255, 257, 259, 261, 263, 265, 267] (by decide +kernel) (by decide +kernel)
theorem w_238 : (Cond.fieldLink "TwoAgree$Bribes" (12 : Nat) "TwoAgree$Bribes" "crowd" "LTwoAgree$Crowd;") ∈ gtb := gt_sg sg_1 163 (by decide +kernel) (by decide +kernel)
theorem fl_RX0_12 : gFL RX0 12 0 0 (tyX0 0) true := ⟨RX0, TX0, 9, tyX0, rfl, uw_0, tyX0_ok, nmX0, by decide, w_238, tyX0_ok 0 (by decide), rfl⟩
theorem gc_18_0 : gcf 18 0 0 = some (some 19) := by decide +kernel
theorem gk_19 : gcls 19 = some 2 := by decide +kernel
theorem w_790 : (Cond.methodLink "TwoAgree$Bribes" (22 : Nat) ({ cls := "TwoAgree$Crowd", name := "gatherNow", desc := "(LTwoAgree$Island;)V" } : MethodName)) ∈ gtb := gt_sg sg_3 235 (by decide +kernel) (by decide +kernel)
theorem lv_RX0_22 : gLV RX0 22 m_Cr_gatherNow 1 := ⟨lb_Cr_gatherNow, w_790, w_714, w_715⟩
theorem w_240 : (Cond.fieldLink "TwoAgree$Bribes" (26 : Nat) "TwoAgree$Bribes" "onSale" "I") ∈ gtb := gt_sg sg_1 165 (by decide +kernel) (by decide +kernel)
theorem fl_RX0_26 : gFL RX0 26 0 2 (tyX0 2) false := ⟨RX0, TX0, 9, tyX0, rfl, uw_0, tyX0_ok, nmX0, by decide, w_240, tyX0_ok 2 (by decide), rfl⟩
theorem gc_18_2 : gcf 18 0 2 = some none := by decide +kernel
theorem w_206 : (Cond.fieldLink "TwoAgree$Bribes" (30 : Nat) "TwoAgree$Crowd" "size" "I") ∈ gtb := gt_sg sg_1 131 (by decide +kernel) (by decide +kernel)
theorem fl_RX0_30 : gFL RX0 30 2 2 (tyX2 2) false := ⟨RX2, TX2, 8, tyX2, rfl, uw_2, tyX2_ok, nmX2, by decide, w_206, tyX2_ok 2 (by decide), rfl⟩
theorem gc_19_2 : gcf 19 2 2 = some none := by decide +kernel
theorem w_239 : (Cond.fieldLink "TwoAgree$Bribes" (18 : Nat) "TwoAgree$Bribes" "price" "[I") ∈ gtb := gt_sg sg_1 164 (by decide +kernel) (by decide +kernel)
theorem fl_RX0_18 : gFL RX0 18 0 1 (tyX0 1) true := ⟨RX0, TX0, 9, tyX0, rfl, uw_0, tyX0_ok, nmX0, by decide, w_239, tyX0_ok 1 (by decide), rfl⟩
theorem gc_18_1 : gcf 18 0 1 = some (some 26) := by decide +kernel
theorem w_150 : (Cond.fieldLink "TwoAgree$Bribes" (33 : Nat) "TwoAgree$Island" "price" "[I") ∈ gtb := gt_sg sg_1 75 (by decide +kernel) (by decide +kernel)
theorem fl_RX0_33 : gFL RX0 33 3 2 (tyX3 2) true := ⟨RX3, TX3, 10, tyX3, rfl, uw_3, tyX3_ok, nmX3, by decide, w_150, tyX3_ok 2 (by decide), rfl⟩
theorem w_154 : (Cond.fieldLink "TwoAgree$Bribes" (36 : Nat) "TwoAgree$Island" "bought" "[I") ∈ gtb := gt_sg sg_1 79 (by decide +kernel) (by decide +kernel)
theorem fl_RX0_36 : gFL RX0 36 3 3 (tyX3 3) true := ⟨RX3, TX3, 10, tyX3, rfl, uw_3, tyX3_ok, nmX3, by decide, w_154, tyX3_ok 3 (by decide), rfl⟩
abbrev m_Br_areMates : gM := (yX0_areMates, cX0_areMates, 4, some .boolean)
theorem ga_21 : gia 21 = some 10 := by decide +kernel
theorem w_204 : (Cond.fieldLink "TwoAgree$Bribes" (39 : Nat) "TwoAgree$Crowd" "kin" "[I") ∈ gtb := gt_sg sg_1 129 (by decide +kernel) (by decide +kernel)
theorem fl_RX0_39 : gFL RX0 39 2 1 (tyX2 1) true := ⟨RX2, TX2, 8, tyX2, rfl, uw_2, tyX2_ok, nmX2, by decide, w_204, tyX2_ok 1 (by decide), rfl⟩
theorem gc_19_1 : gcf 19 2 1 = some (some 21) := by decide +kernel
abbrev m_Br_costOfOne : gM := (yX0_costOfOne, cX0_costOfOne, 3, some .int)
theorem ga_20 : gia 20 = some 10 := by decide +kernel
theorem w_201 : (Cond.fieldLink "TwoAgree$Bribes" (42 : Nat) "TwoAgree$Crowd" "said" "[I") ∈ gtb := gt_sg sg_1 126 (by decide +kernel) (by decide +kernel)
theorem fl_RX0_42 : gFL RX0 42 2 0 (tyX2 0) true := ⟨RX2, TX2, 8, tyX2, rfl, uw_2, tyX2_ok, nmX2, by decide, w_201, tyX2_ok 0 (by decide), rfl⟩
theorem gc_19_0 : gcf 19 2 0 = some (some 20) := by decide +kernel
abbrev m_Br_costOfPair : gM := (yX0_costOfPair, cX0_costOfPair, 3, some .int)
theorem w_807 : Cond.code m_Br_costOfOne.1 m_Br_costOfOne.2.1 m_Br_costOfOne.2.2.1 m_Br_costOfOne.2.2.2 ∈ gtb := gt_sg sg_4 12 (by decide +kernel) (by decide +kernel)
theorem w_80 : (Cond.initialized "TwoAgree$Bribes") ∈ gtb := gt_sg sg_1 5 (by decide +kernel) (by decide +kernel)
theorem lb_Br_costOfOne : gLB m_Br_costOfOne 2 := ⟨w_807, w_80, by decide +kernel, by decide +kernel, by decide +kernel⟩
theorem w_804 : (Cond.methodLink "TwoAgree$Bribes" (45 : Nat) ({ cls := "TwoAgree$Bribes", name := "costOfOne", desc := "(II)I" } : MethodName)) ∈ gtb := gt_sg sg_4 9 (by decide +kernel) (by decide +kernel)
theorem w_806 : (Cond.instanceMethod ({ cls := "TwoAgree$Bribes", name := "costOfOne", desc := "(II)I" } : MethodName)) ∈ gtb := gt_sg sg_4 11 (by decide +kernel) (by decide +kernel)
theorem w_14 : Cond.selects m_Br_costOfOne.1.cls m_Br_costOfOne.1 m_Br_costOfOne.1 ∈ gtb := gt_in 14 (by decide +kernel) (by decide +kernel)
theorem lv_RX0_45 : gLV RX0 45 m_Br_costOfOne 2 := ⟨lb_Br_costOfOne, w_804, w_806, w_14⟩
theorem gk_18 : gcls 18 = some 0 := by decide +kernel
abbrev m_Br_findPair : gM := (yX0_findPair, cX0_findPair, 3, some .boolean)
theorem w_795 : (Cond.constant "TwoAgree$Bribes" (49 : Nat) (1000000 : Int32)) ∈ gtb := gt_sg sg_4 0 (by decide +kernel) (by decide +kernel)
theorem w_243 : (Cond.fieldLink "TwoAgree$Bribes" (50 : Nat) "TwoAgree$Bribes" "least" "I") ∈ gtb := gt_sg sg_1 168 (by decide +kernel) (by decide +kernel)
theorem fl_RX0_50 : gFL RX0 50 0 5 (tyX0 5) false := ⟨RX0, TX0, 9, tyX0, rfl, uw_0, tyX0_ok, nmX0, by decide, w_243, tyX0_ok 5 (by decide), rfl⟩
theorem gc_18_5 : gcf 18 0 5 = some none := by decide +kernel
theorem w_799 : Cond.code m_Br_areMates.1 m_Br_areMates.2.1 m_Br_areMates.2.2.1 m_Br_areMates.2.2.2 ∈ gtb := gt_sg sg_4 4 (by decide +kernel) (by decide +kernel)
theorem lb_Br_areMates : gLB m_Br_areMates 1 := ⟨w_799, w_80, by decide +kernel, by decide +kernel, by decide +kernel⟩
theorem w_796 : (Cond.methodLink "TwoAgree$Bribes" (53 : Nat) ({ cls := "TwoAgree$Bribes", name := "areMates", desc := "(I)Z" } : MethodName)) ∈ gtb := gt_sg sg_4 1 (by decide +kernel) (by decide +kernel)
theorem w_798 : (Cond.instanceMethod ({ cls := "TwoAgree$Bribes", name := "areMates", desc := "(I)Z" } : MethodName)) ∈ gtb := gt_sg sg_4 3 (by decide +kernel) (by decide +kernel)
theorem w_12 : Cond.selects m_Br_areMates.1.cls m_Br_areMates.1 m_Br_areMates.1 ∈ gtb := gt_in 12 (by decide +kernel) (by decide +kernel)
theorem lv_RX0_53 : gLV RX0 53 m_Br_areMates 1 := ⟨lb_Br_areMates, w_796, w_798, w_12⟩
theorem w_803 : Cond.code m_Br_costOfPair.1 m_Br_costOfPair.2.1 m_Br_costOfPair.2.2.1 m_Br_costOfPair.2.2.2 ∈ gtb := gt_sg sg_4 8 (by decide +kernel) (by decide +kernel)
theorem lb_Br_costOfPair : gLB m_Br_costOfPair 2 := ⟨w_803, w_80, by decide +kernel, by decide +kernel, by decide +kernel⟩
theorem w_800 : (Cond.methodLink "TwoAgree$Bribes" (57 : Nat) ({ cls := "TwoAgree$Bribes", name := "costOfPair", desc := "(II)I" } : MethodName)) ∈ gtb := gt_sg sg_4 5 (by decide +kernel) (by decide +kernel)
theorem w_802 : (Cond.instanceMethod ({ cls := "TwoAgree$Bribes", name := "costOfPair", desc := "(II)I" } : MethodName)) ∈ gtb := gt_sg sg_4 7 (by decide +kernel) (by decide +kernel)
theorem w_13 : Cond.selects m_Br_costOfPair.1.cls m_Br_costOfPair.1 m_Br_costOfPair.1 ∈ gtb := gt_in 13 (by decide +kernel) (by decide +kernel)
theorem lv_RX0_57 : gLV RX0 57 m_Br_costOfPair 2 := ⟨lb_Br_costOfPair, w_800, w_802, w_13⟩
theorem w_245 : (Cond.fieldLink "TwoAgree$Bribes" (60 : Nat) "TwoAgree$Bribes" "firstPair" "I") ∈ gtb := gt_sg sg_1 170 (by decide +kernel) (by decide +kernel)
theorem fl_RX0_60 : gFL RX0 60 0 6 (tyX0 6) false := ⟨RX0, TX0, 9, tyX0, rfl, uw_0, tyX0_ok, nmX0, by decide, w_245, tyX0_ok 6 (by decide), rfl⟩
theorem gc_18_6 : gcf 18 0 6 = some none := by decide +kernel
abbrev m_T_pay : gM := (yX10_pay, cX10_pay, 3, some .int)
theorem w_432 : (Cond.fieldLink "TwoAgree" (26 : Nat) "TwoAgree" "bribes" "LTwoAgree$Bribes;") ∈ gtb := gt_sg sg_2 117 (by decide +kernel) (by decide +kernel)
theorem fl_RX10_26 : gFL RX10 26 10 2 (tyX10 2) true := ⟨RX10, TX10, 9, tyX10, rfl, uw_10, tyX10_ok, nmX10, by decide, w_432, tyX10_ok 2 (by decide), rfl⟩
theorem gc_0_2 : gcf 0 10 2 = some (some 18) := by decide +kernel
theorem w_789 : Cond.code m_Br_begin.1 m_Br_begin.2.1 m_Br_begin.2.2.1 m_Br_begin.2.2.2 ∈ gtb := gt_sg sg_3 234 (by decide +kernel) (by decide +kernel)
theorem lb_Br_begin : gLB m_Br_begin 1 := ⟨w_789, w_80, by decide +kernel, by decide +kernel, by decide +kernel⟩
theorem w_786 : (Cond.methodLink "TwoAgree" (161 : Nat) ({ cls := "TwoAgree$Bribes", name := "begin", desc := "(LTwoAgree$Island;)V" } : MethodName)) ∈ gtb := gt_sg sg_3 231 (by decide +kernel) (by decide +kernel)
theorem w_787 : (Cond.instanceMethod ({ cls := "TwoAgree$Bribes", name := "begin", desc := "(LTwoAgree$Island;)V" } : MethodName)) ∈ gtb := gt_sg sg_3 232 (by decide +kernel) (by decide +kernel)
theorem w_788 : (Cond.selects "TwoAgree$Bribes" ({ cls := "TwoAgree$Bribes", name := "begin", desc := "(LTwoAgree$Island;)V" } : MethodName) ({ cls := "TwoAgree$Bribes", name := "begin", desc := "(LTwoAgree$Island;)V" } : MethodName)) ∈ gtb := gt_sg sg_3 233 (by decide +kernel) (by decide +kernel)
theorem lv_RX10_161 : gLV RX10 161 m_Br_begin 1 := ⟨lb_Br_begin, w_786, w_787, w_788⟩
theorem w_794 : Cond.code m_Br_findPair.1 m_Br_findPair.2.1 m_Br_findPair.2.2.1 m_Br_findPair.2.2.2 ∈ gtb := gt_sg sg_3 239 (by decide +kernel) (by decide +kernel)
theorem lb_Br_findPair : gLB m_Br_findPair 1 := ⟨w_794, w_80, by decide +kernel, by decide +kernel, by decide +kernel⟩
theorem w_791 : (Cond.methodLink "TwoAgree" (164 : Nat) ({ cls := "TwoAgree$Bribes", name := "findPair", desc := "(I)Z" } : MethodName)) ∈ gtb := gt_sg sg_3 236 (by decide +kernel) (by decide +kernel)
theorem w_792 : (Cond.instanceMethod ({ cls := "TwoAgree$Bribes", name := "findPair", desc := "(I)Z" } : MethodName)) ∈ gtb := gt_sg sg_3 237 (by decide +kernel) (by decide +kernel)
theorem w_793 : (Cond.selects "TwoAgree$Bribes" ({ cls := "TwoAgree$Bribes", name := "findPair", desc := "(I)Z" } : MethodName) ({ cls := "TwoAgree$Bribes", name := "findPair", desc := "(I)Z" } : MethodName)) ∈ gtb := gt_sg sg_3 238 (by decide +kernel) (by decide +kernel)
theorem lv_RX10_164 : gLV RX10 164 m_Br_findPair 1 := ⟨lb_Br_findPair, w_791, w_792, w_793⟩
theorem w_244 : (Cond.fieldLink "TwoAgree" (168 : Nat) "TwoAgree$Bribes" "least" "I") ∈ gtb := gt_sg sg_1 169 (by decide +kernel) (by decide +kernel)
theorem fl_RX10_168 : gFL RX10 168 0 5 (tyX0 5) false := ⟨RX0, TX0, 9, tyX0, rfl, uw_0, tyX0_ok, nmX0, by decide, w_244, tyX0_ok 5 (by decide), rfl⟩
theorem w_246 : (Cond.fieldLink "TwoAgree" (171 : Nat) "TwoAgree$Bribes" "firstPair" "I") ∈ gtb := gt_sg sg_1 171 (by decide +kernel) (by decide +kernel)
theorem fl_RX10_171 : gFL RX10 171 0 6 (tyX0 6) false := ⟨RX0, TX0, 9, tyX0, rfl, uw_0, tyX0_ok, nmX0, by decide, w_246, tyX0_ok 6 (by decide), rfl⟩
abbrev m_T_areTwo : gM := (yX10_areTwo, cX10_areTwo, 2, some .boolean)
abbrev m_Br_areApart : gM := (yX0_areApart, cX0_areApart, 2, some .boolean)
abbrev m_Br_findOther : gM := (yX0_findOther, cX0_findOther, 5, none)
theorem w_825 : Cond.code m_Br_areApart.1 m_Br_areApart.2.1 m_Br_areApart.2.2.1 m_Br_areApart.2.2.2 ∈ gtb := gt_sg sg_4 30 (by decide +kernel) (by decide +kernel)
theorem lb_Br_areApart : gLB m_Br_areApart 2 := ⟨w_825, w_80, by decide +kernel, by decide +kernel, by decide +kernel⟩
theorem w_824 : (Cond.static ({ cls := "TwoAgree$Bribes", name := "areApart", desc := "(II)Z" } : MethodName)) ∈ gtb := gt_sg sg_4 29 (by decide +kernel) (by decide +kernel)
theorem w_823 : (Cond.methodLink "TwoAgree$Bribes" (67 : Nat) ({ cls := "TwoAgree$Bribes", name := "areApart", desc := "(II)Z" } : MethodName)) ∈ gtb := gt_sg sg_4 28 (by decide +kernel) (by decide +kernel)
theorem ls_RX0_67 : gLS RX0 67 m_Br_areApart 2 := ⟨lb_Br_areApart, w_823, w_824⟩
theorem w_247 : (Cond.fieldLink "TwoAgree$Bribes" (71 : Nat) "TwoAgree$Bribes" "otherPair" "I") ∈ gtb := gt_sg sg_1 172 (by decide +kernel) (by decide +kernel)
theorem fl_RX0_71 : gFL RX0 71 0 7 (tyX0 7) false := ⟨RX0, TX0, 9, tyX0, rfl, uw_0, tyX0_ok, nmX0, by decide, w_247, tyX0_ok 7 (by decide), rfl⟩
theorem gc_18_7 : gcf 18 0 7 = some none := by decide +kernel
abbrev m_Br_findTwoPairs : gM := (yX0_findTwoPairs, cX0_findTwoPairs, 4, some .boolean)
theorem w_822 : Cond.code m_Br_findOther.1 m_Br_findOther.2.1 m_Br_findOther.2.2.1 m_Br_findOther.2.2.2 ∈ gtb := gt_sg sg_4 27 (by decide +kernel) (by decide +kernel)
theorem lb_Br_findOther : gLB m_Br_findOther 3 := ⟨w_822, w_80, by decide +kernel, by decide +kernel, by decide +kernel⟩
theorem w_819 : (Cond.methodLink "TwoAgree$Bribes" (63 : Nat) ({ cls := "TwoAgree$Bribes", name := "findOther", desc := "(III)V" } : MethodName)) ∈ gtb := gt_sg sg_4 24 (by decide +kernel) (by decide +kernel)
theorem w_821 : (Cond.instanceMethod ({ cls := "TwoAgree$Bribes", name := "findOther", desc := "(III)V" } : MethodName)) ∈ gtb := gt_sg sg_4 26 (by decide +kernel) (by decide +kernel)
theorem w_15 : Cond.selects m_Br_findOther.1.cls m_Br_findOther.1 m_Br_findOther.1 ∈ gtb := gt_in 15 (by decide +kernel) (by decide +kernel)
theorem lv_RX0_63 : gLV RX0 63 m_Br_findOther 3 := ⟨lb_Br_findOther, w_819, w_821, w_15⟩
abbrev m_T_payBoth : gM := (yX10_payBoth, cX10_payBoth, 3, some .int)
theorem w_814 : Cond.code m_T_areTwo.1 m_T_areTwo.2.1 m_T_areTwo.2.2.1 m_T_areTwo.2.2.2 ∈ gtb := gt_sg sg_4 19 (by decide +kernel) (by decide +kernel)
theorem lb_T_areTwo : gLB m_T_areTwo 2 := ⟨w_814, w_76, by decide +kernel, by decide +kernel, by decide +kernel⟩
theorem w_813 : (Cond.static ({ cls := "TwoAgree", name := "areTwo", desc := "(II)Z" } : MethodName)) ∈ gtb := gt_sg sg_4 18 (by decide +kernel) (by decide +kernel)
theorem w_812 : (Cond.methodLink "TwoAgree" (174 : Nat) ({ cls := "TwoAgree", name := "areTwo", desc := "(II)Z" } : MethodName)) ∈ gtb := gt_sg sg_4 17 (by decide +kernel) (by decide +kernel)
theorem ls_RX10_174 : gLS RX10 174 m_T_areTwo 2 := ⟨lb_T_areTwo, w_812, w_813⟩
theorem w_818 : Cond.code m_Br_findTwoPairs.1 m_Br_findTwoPairs.2.1 m_Br_findTwoPairs.2.2.1 m_Br_findTwoPairs.2.2.2 ∈ gtb := gt_sg sg_4 23 (by decide +kernel) (by decide +kernel)
theorem lb_Br_findTwoPairs : gLB m_Br_findTwoPairs 2 := ⟨w_818, w_80, by decide +kernel, by decide +kernel, by decide +kernel⟩
theorem w_815 : (Cond.methodLink "TwoAgree" (177 : Nat) ({ cls := "TwoAgree$Bribes", name := "findTwoPairs", desc := "(II)Z" } : MethodName)) ∈ gtb := gt_sg sg_4 20 (by decide +kernel) (by decide +kernel)
theorem w_816 : (Cond.instanceMethod ({ cls := "TwoAgree$Bribes", name := "findTwoPairs", desc := "(II)Z" } : MethodName)) ∈ gtb := gt_sg sg_4 21 (by decide +kernel) (by decide +kernel)
theorem w_817 : (Cond.selects "TwoAgree$Bribes" ({ cls := "TwoAgree$Bribes", name := "findTwoPairs", desc := "(II)Z" } : MethodName) ({ cls := "TwoAgree$Bribes", name := "findTwoPairs", desc := "(II)Z" } : MethodName)) ∈ gtb := gt_sg sg_4 22 (by decide +kernel) (by decide +kernel)
theorem lv_RX10_177 : gLV RX10 177 m_Br_findTwoPairs 2 := ⟨lb_Br_findTwoPairs, w_815, w_816, w_817⟩
theorem w_248 : (Cond.fieldLink "TwoAgree" (180 : Nat) "TwoAgree$Bribes" "otherPair" "I") ∈ gtb := gt_sg sg_1 173 (by decide +kernel) (by decide +kernel)
theorem fl_RX10_180 : gFL RX10 180 0 7 (tyX0 7) false := ⟨RX0, TX0, 9, tyX0, rfl, uw_0, tyX0_ok, nmX0, by decide, w_248, tyX0_ok 7 (by decide), rfl⟩
abbrev m_Cr_alone : gM := (yX2_alone, cX2_alone, 6, some .int)
abbrev m_Cr_joinGroups : gM := (yX2_joinGroups, cX2_joinGroups, 4, none)
theorem gp_2_6 {c : Nat} (h : gcls c = some 2) : gia (c + 5) = some 8 := gcls_all 2 (fun c => gia (c + 5) = some 8) (by decide +kernel) c h
theorem gq_2_6 {c : Nat} (h : gcls c = some 2) : gcf c 2 6 = some (some (c + 5)) := gcls_all 2 (fun c => gcf c 2 6 = some (some (c + 5))) (by decide +kernel) c h
theorem w_211 : (Cond.fieldLink "TwoAgree$Crowd" (24 : Nat) "TwoAgree$Crowd" "groups" "[I") ∈ gtb := gt_sg sg_1 136 (by decide +kernel) (by decide +kernel)
theorem fl_RX2_24 : gFL RX2 24 2 6 (tyX2 6) true := ⟨RX2, TX2, 8, tyX2, rfl, uw_2, tyX2_ok, nmX2, by decide, w_211, tyX2_ok 6 (by decide), rfl⟩
abbrev m_Cr_marriagesToDrought : gM := (yX2_marriagesToDrought, cX2_marriagesToDrought, 4, some .int)
theorem w_853 : Cond.code m_Cr_joinGroups.1 m_Cr_joinGroups.2.1 m_Cr_joinGroups.2.2.1 m_Cr_joinGroups.2.2.2 ∈ gtb := gt_sg sg_4 58 (by decide +kernel) (by decide +kernel)
theorem lb_Cr_joinGroups : gLB m_Cr_joinGroups 2 := ⟨w_853, w_79, by decide +kernel, by decide +kernel, by decide +kernel⟩
theorem w_850 : (Cond.methodLink "TwoAgree$Crowd" (124 : Nat) ({ cls := "TwoAgree$Crowd", name := "joinGroups", desc := "(II)V" } : MethodName)) ∈ gtb := gt_sg sg_4 55 (by decide +kernel) (by decide +kernel)
theorem w_852 : (Cond.instanceMethod ({ cls := "TwoAgree$Crowd", name := "joinGroups", desc := "(II)V" } : MethodName)) ∈ gtb := gt_sg sg_4 57 (by decide +kernel) (by decide +kernel)
theorem w_18 : Cond.selects m_Cr_joinGroups.1.cls m_Cr_joinGroups.1 m_Cr_joinGroups.1 ∈ gtb := gt_in 18 (by decide +kernel) (by decide +kernel)
theorem lv_RX2_124 : gLV RX2 124 m_Cr_joinGroups 2 := ⟨lb_Cr_joinGroups, w_850, w_852, w_18⟩
abbrev m_T_lowestOf : gM := (yX10_lowestOf, cX10_lowestOf, 2, some .int)
abbrev m_Cr_boundAmong : gM := (yX2_boundAmong, cX2_boundAmong, 5, some .int)
theorem w_842 : (Cond.methodLink "TwoAgree$Crowd" (121 : Nat) ({ cls := "java/lang/Math", name := "max", desc := "(II)I" } : MethodName)) ∈ gtb := gt_sg sg_4 47 (by decide +kernel) (by decide +kernel)
abbrev m_Cr_mostAmong : gM := (yX2_mostAmong, cX2_mostAmong, 7, some .int)
theorem gp_2_5 {c : Nat} (h : gcls c = some 2) : gia (c + 4) = some 10 := gcls_all 2 (fun c => gia (c + 4) = some 10) (by decide +kernel) c h
theorem gq_2_5 {c : Nat} (h : gcls c = some 2) : gcf c 2 5 = some (some (c + 4)) := gcls_all 2 (fun c => gcf c 2 5 = some (some (c + 4))) (by decide +kernel) c h
theorem w_841 : Cond.code m_Cr_boundAmong.1 m_Cr_boundAmong.2.1 m_Cr_boundAmong.2.2.1 m_Cr_boundAmong.2.2.2 ∈ gtb := gt_sg sg_4 46 (by decide +kernel) (by decide +kernel)
theorem lb_Cr_boundAmong : gLB m_Cr_boundAmong 1 := ⟨w_841, w_79, by decide +kernel, by decide +kernel, by decide +kernel⟩
theorem w_838 : (Cond.methodLink "TwoAgree$Crowd" (115 : Nat) ({ cls := "TwoAgree$Crowd", name := "boundAmong", desc := "(I)I" } : MethodName)) ∈ gtb := gt_sg sg_4 43 (by decide +kernel) (by decide +kernel)
theorem w_840 : (Cond.instanceMethod ({ cls := "TwoAgree$Crowd", name := "boundAmong", desc := "(I)I" } : MethodName)) ∈ gtb := gt_sg sg_4 45 (by decide +kernel) (by decide +kernel)
theorem w_17 : Cond.selects m_Cr_boundAmong.1.cls m_Cr_boundAmong.1 m_Cr_boundAmong.1 ∈ gtb := gt_in 17 (by decide +kernel) (by decide +kernel)
theorem lv_RX2_115 : gLV RX2 115 m_Cr_boundAmong 1 := ⟨lb_Cr_boundAmong, w_838, w_840, w_17⟩
theorem w_845 : Cond.code m_T_lowestOf.1 m_T_lowestOf.2.1 m_T_lowestOf.2.2.1 m_T_lowestOf.2.2.2 ∈ gtb := gt_sg sg_4 50 (by decide +kernel) (by decide +kernel)
theorem lb_T_lowestOf : gLB m_T_lowestOf 1 := ⟨w_845, w_76, by decide +kernel, by decide +kernel, by decide +kernel⟩
theorem w_844 : (Cond.static ({ cls := "TwoAgree", name := "lowestOf", desc := "(I)I" } : MethodName)) ∈ gtb := gt_sg sg_4 49 (by decide +kernel) (by decide +kernel)
theorem ln_RX2_118 : gLSN RX2 118 m_T_lowestOf 1 := ⟨lb_T_lowestOf, ⟨"TwoAgree", List.mem_of_getElem? (i := 17) (by decide +kernel)⟩, w_844⟩
theorem w_837 : Cond.code m_Cr_mostAmong.1 m_Cr_mostAmong.2.1 m_Cr_mostAmong.2.2.1 m_Cr_mostAmong.2.2.2 ∈ gtb := gt_sg sg_4 42 (by decide +kernel) (by decide +kernel)
theorem lb_Cr_mostAmong : gLB m_Cr_mostAmong 1 := ⟨w_837, w_79, by decide +kernel, by decide +kernel, by decide +kernel⟩
theorem w_834 : (Cond.methodLink "TwoAgree$Crowd" (112 : Nat) ({ cls := "TwoAgree$Crowd", name := "mostAmong", desc := "(I)I" } : MethodName)) ∈ gtb := gt_sg sg_4 39 (by decide +kernel) (by decide +kernel)
theorem w_836 : (Cond.instanceMethod ({ cls := "TwoAgree$Crowd", name := "mostAmong", desc := "(I)I" } : MethodName)) ∈ gtb := gt_sg sg_4 41 (by decide +kernel) (by decide +kernel)
theorem w_16 : Cond.selects m_Cr_mostAmong.1.cls m_Cr_mostAmong.1 m_Cr_mostAmong.1 ∈ gtb := gt_in 16 (by decide +kernel) (by decide +kernel)
theorem lv_RX2_112 : gLV RX2 112 m_Cr_mostAmong 1 := ⟨lb_Cr_mostAmong, w_834, w_836, w_16⟩
theorem w_210 : (Cond.fieldLink "TwoAgree$Crowd" (21 : Nat) "TwoAgree$Crowd" "friends" "[I") ∈ gtb := gt_sg sg_1 135 (by decide +kernel) (by decide +kernel)
theorem fl_RX2_21 : gFL RX2 21 2 5 (tyX2 5) true := ⟨RX2, TX2, 8, tyX2, rfl, uw_2, tyX2_ok, nmX2, by decide, w_210, tyX2_ok 5 (by decide), rfl⟩
abbrev m_Cr_mostCouples : gM := (yX2_mostCouples, cX2_mostCouples, 3, some .int)
abbrev m_T_pairs : gM := (yX10_pairs, cX10_pairs, 2, some .int)
theorem w_833 : Cond.code m_Cr_mostCouples.1 m_Cr_mostCouples.2.1 m_Cr_mostCouples.2.2.1 m_Cr_mostCouples.2.2.2 ∈ gtb := gt_sg sg_4 38 (by decide +kernel) (by decide +kernel)
theorem lb_Cr_mostCouples : gLB m_Cr_mostCouples 0 := ⟨w_833, w_79, by decide +kernel, by decide +kernel, by decide +kernel⟩
theorem w_830 : (Cond.methodLink "TwoAgree" (183 : Nat) ({ cls := "TwoAgree$Crowd", name := "mostCouples", desc := "()I" } : MethodName)) ∈ gtb := gt_sg sg_4 35 (by decide +kernel) (by decide +kernel)
theorem w_831 : (Cond.instanceMethod ({ cls := "TwoAgree$Crowd", name := "mostCouples", desc := "()I" } : MethodName)) ∈ gtb := gt_sg sg_4 36 (by decide +kernel) (by decide +kernel)
theorem w_832 : (Cond.selects "TwoAgree$Crowd" ({ cls := "TwoAgree$Crowd", name := "mostCouples", desc := "()I" } : MethodName) ({ cls := "TwoAgree$Crowd", name := "mostCouples", desc := "()I" } : MethodName)) ∈ gtb := gt_sg sg_4 37 (by decide +kernel) (by decide +kernel)
theorem lv_RX10_183 : gLV RX10 183 m_Cr_mostCouples 0 := ⟨lb_Cr_mostCouples, w_830, w_831, w_832⟩
theorem w_849 : Cond.code m_Cr_marriagesToDrought.1 m_Cr_marriagesToDrought.2.1 m_Cr_marriagesToDrought.2.2.1 m_Cr_marriagesToDrought.2.2.2 ∈ gtb := gt_sg sg_4 54 (by decide +kernel) (by decide +kernel)
theorem lb_Cr_marriagesToDrought : gLB m_Cr_marriagesToDrought 0 := ⟨w_849, w_79, by decide +kernel, by decide +kernel, by decide +kernel⟩
theorem w_846 : (Cond.methodLink "TwoAgree" (186 : Nat) ({ cls := "TwoAgree$Crowd", name := "marriagesToDrought", desc := "()I" } : MethodName)) ∈ gtb := gt_sg sg_4 51 (by decide +kernel) (by decide +kernel)
theorem w_847 : (Cond.instanceMethod ({ cls := "TwoAgree$Crowd", name := "marriagesToDrought", desc := "()I" } : MethodName)) ∈ gtb := gt_sg sg_4 52 (by decide +kernel) (by decide +kernel)
theorem w_848 : (Cond.selects "TwoAgree$Crowd" ({ cls := "TwoAgree$Crowd", name := "marriagesToDrought", desc := "()I" } : MethodName) ({ cls := "TwoAgree$Crowd", name := "marriagesToDrought", desc := "()I" } : MethodName)) ∈ gtb := gt_sg sg_4 53 (by decide +kernel) (by decide +kernel)
theorem lv_RX10_186 : gLV RX10 186 m_Cr_marriagesToDrought 0 := ⟨lb_Cr_marriagesToDrought, w_846, w_847, w_848⟩
theorem w_857 : Cond.code m_Cr_alone.1 m_Cr_alone.2.1 m_Cr_alone.2.2.1 m_Cr_alone.2.2.2 ∈ gtb := gt_sg sg_4 62 (by decide +kernel) (by decide +kernel)
theorem lb_Cr_alone : gLB m_Cr_alone 0 := ⟨w_857, w_79, by decide +kernel, by decide +kernel, by decide +kernel⟩
theorem w_854 : (Cond.methodLink "TwoAgree" (189 : Nat) ({ cls := "TwoAgree$Crowd", name := "alone", desc := "()I" } : MethodName)) ∈ gtb := gt_sg sg_4 59 (by decide +kernel) (by decide +kernel)
theorem w_855 : (Cond.instanceMethod ({ cls := "TwoAgree$Crowd", name := "alone", desc := "()I" } : MethodName)) ∈ gtb := gt_sg sg_4 60 (by decide +kernel) (by decide +kernel)
theorem w_856 : (Cond.selects "TwoAgree$Crowd" ({ cls := "TwoAgree$Crowd", name := "alone", desc := "()I" } : MethodName) ({ cls := "TwoAgree$Crowd", name := "alone", desc := "()I" } : MethodName)) ∈ gtb := gt_sg sg_4 61 (by decide +kernel) (by decide +kernel)
theorem lv_RX10_189 : gLV RX10 189 m_Cr_alone 0 := ⟨lb_Cr_alone, w_854, w_855, w_856⟩
abbrev m_Cr_happensOn : gM := (yX2_happensOn, cX2_happensOn, 6, some .boolean)
abbrev m_T_strangers : gM := (yX10_strangers, cX10_strangers, 2, some .int)
theorem w_865 : Cond.code m_Cr_happensOn.1 m_Cr_happensOn.2.1 m_Cr_happensOn.2.2.1 m_Cr_happensOn.2.2.2 ∈ gtb := gt_sg sg_4 70 (by decide +kernel) (by decide +kernel)
theorem lb_Cr_happensOn : gLB m_Cr_happensOn 1 := ⟨w_865, w_79, by decide +kernel, by decide +kernel, by decide +kernel⟩
theorem w_862 : (Cond.methodLink "TwoAgree" (192 : Nat) ({ cls := "TwoAgree$Crowd", name := "happensOn", desc := "(I)Z" } : MethodName)) ∈ gtb := gt_sg sg_4 67 (by decide +kernel) (by decide +kernel)
theorem w_863 : (Cond.instanceMethod ({ cls := "TwoAgree$Crowd", name := "happensOn", desc := "(I)Z" } : MethodName)) ∈ gtb := gt_sg sg_4 68 (by decide +kernel) (by decide +kernel)
theorem w_864 : (Cond.selects "TwoAgree$Crowd" ({ cls := "TwoAgree$Crowd", name := "happensOn", desc := "(I)Z" } : MethodName) ({ cls := "TwoAgree$Crowd", name := "happensOn", desc := "(I)Z" } : MethodName)) ∈ gtb := gt_sg sg_4 69 (by decide +kernel) (by decide +kernel)
theorem lv_RX10_192 : gLV RX10 192 m_Cr_happensOn 1 := ⟨lb_Cr_happensOn, w_862, w_863, w_864⟩
theorem w_168 : (Cond.fieldLink "TwoAgree" (195 : Nat) "TwoAgree$Island" "wide" "I") ∈ gtb := gt_sg sg_1 93 (by decide +kernel) (by decide +kernel)
theorem fl_RX10_195 : gFL RX10 195 3 8 (tyX3 8) false := ⟨RX3, TX3, 10, tyX3, rfl, uw_3, tyX3_ok, nmX3, by decide, w_168, tyX3_ok 8 (by decide), rfl⟩
abbrev m_T_commonDivisor : gM := (yX10_commonDivisor, cX10_commonDivisor, 11, some .long)
abbrev m_T_isTwo : gM := (yX10_isTwo, cX10_isTwo, 3, some .boolean)
abbrev m_T_weight : gM := (yX10_weight, cX10_weight, 7, some .long)
theorem w_878 : Cond.code m_T_isTwo.1 m_T_isTwo.2.1 m_T_isTwo.2.2.1 m_T_isTwo.2.2.2 ∈ gtb := gt_sg sg_4 83 (by decide +kernel) (by decide +kernel)
theorem lb_T_isTwo : gLB m_T_isTwo 2 := ⟨w_878, w_76, by decide +kernel, by decide +kernel, by decide +kernel⟩
theorem w_875 : (Cond.methodLink "TwoAgree" (359 : Nat) ({ cls := "TwoAgree", name := "isTwo", desc := "(LTwoAgree$Shelf;I)Z" } : MethodName)) ∈ gtb := gt_sg sg_4 80 (by decide +kernel) (by decide +kernel)
theorem w_877 : (Cond.instanceMethod ({ cls := "TwoAgree", name := "isTwo", desc := "(LTwoAgree$Shelf;I)Z" } : MethodName)) ∈ gtb := gt_sg sg_4 82 (by decide +kernel) (by decide +kernel)
theorem w_20 : Cond.selects m_T_isTwo.1.cls m_T_isTwo.1 m_T_isTwo.1 ∈ gtb := gt_in 20 (by decide +kernel) (by decide +kernel)
theorem lv_RX10_359 : gLV RX10 359 m_T_isTwo 2 := ⟨lb_T_isTwo, w_875, w_877, w_20⟩
theorem gk_0 : gcls 0 = some 10 := by decide +kernel
theorem w_148 : (Cond.fieldLink "TwoAgree" (363 : Nat) "TwoAgree$Island" "eye" "[I") ∈ gtb := gt_sg sg_1 73 (by decide +kernel) (by decide +kernel)
theorem fl_RX10_363 : gFL RX10 363 3 1 (tyX3 1) true := ⟨RX3, TX3, 10, tyX3, rfl, uw_3, tyX3_ok, nmX3, by decide, w_148, tyX3_ok 1 (by decide), rfl⟩
abbrev m_T_likely : gM := (yX10_likely, cX10_likely, 11, some .long)
theorem w_870 : (Cond.constantLong "TwoAgree" (200 : Nat) (-9223372036854775808 : Int64)) ∈ gtb := gt_sg sg_4 75 (by decide +kernel) (by decide +kernel)
theorem w_874 : Cond.code m_T_weight.1 m_T_weight.2.1 m_T_weight.2.2.1 m_T_weight.2.2.2 ∈ gtb := gt_sg sg_4 79 (by decide +kernel) (by decide +kernel)
theorem lb_T_weight : gLB m_T_weight 2 := ⟨w_874, w_76, by decide +kernel, by decide +kernel, by decide +kernel⟩
theorem w_871 : (Cond.methodLink "TwoAgree" (202 : Nat) ({ cls := "TwoAgree", name := "weight", desc := "(LTwoAgree$Shelf;I)J" } : MethodName)) ∈ gtb := gt_sg sg_4 76 (by decide +kernel) (by decide +kernel)
theorem w_873 : (Cond.instanceMethod ({ cls := "TwoAgree", name := "weight", desc := "(LTwoAgree$Shelf;I)J" } : MethodName)) ∈ gtb := gt_sg sg_4 78 (by decide +kernel) (by decide +kernel)
theorem w_19 : Cond.selects m_T_weight.1.cls m_T_weight.1 m_T_weight.1 ∈ gtb := gt_in 19 (by decide +kernel) (by decide +kernel)
theorem lv_RX10_202 : gLV RX10 202 m_T_weight 2 := ⟨lb_T_weight, w_871, w_873, w_19⟩
theorem w_881 : Cond.code m_T_commonDivisor.1 m_T_commonDivisor.2.1 m_T_commonDivisor.2.2.1 m_T_commonDivisor.2.2.2 ∈ gtb := gt_sg sg_4 86 (by decide +kernel) (by decide +kernel)
theorem lb_T_commonDivisor : gLB m_T_commonDivisor 2 := ⟨w_881, w_76, by decide +kernel, by decide +kernel, by decide +kernel⟩
theorem w_880 : (Cond.static ({ cls := "TwoAgree", name := "commonDivisor", desc := "(JJ)J" } : MethodName)) ∈ gtb := gt_sg sg_4 85 (by decide +kernel) (by decide +kernel)
theorem w_879 : (Cond.methodLink "TwoAgree" (206 : Nat) ({ cls := "TwoAgree", name := "commonDivisor", desc := "(JJ)J" } : MethodName)) ∈ gtb := gt_sg sg_4 84 (by decide +kernel) (by decide +kernel)
theorem ls_RX10_206 : gLS RX10 206 m_T_commonDivisor 2 := ⟨lb_T_commonDivisor, w_879, w_880⟩
abbrev m_T_sayingOtherwise : gM := (yX10_sayingOtherwise, cX10_sayingOtherwise, 5, some .int)
abbrev m_T_liars : gM := (yX10_liars, cX10_liars, 8, some .int)
theorem w_889 : Cond.code m_T_sayingOtherwise.1 m_T_sayingOtherwise.2.1 m_T_sayingOtherwise.2.2.1 m_T_sayingOtherwise.2.2.2 ∈ gtb := gt_sg sg_4 94 (by decide +kernel) (by decide +kernel)
theorem lb_T_sayingOtherwise : gLB m_T_sayingOtherwise 2 := ⟨w_889, w_76, by decide +kernel, by decide +kernel, by decide +kernel⟩
theorem w_886 : (Cond.methodLink "TwoAgree" (210 : Nat) ({ cls := "TwoAgree", name := "sayingOtherwise", desc := "(LTwoAgree$Shelf;I)I" } : MethodName)) ∈ gtb := gt_sg sg_4 91 (by decide +kernel) (by decide +kernel)
theorem w_888 : (Cond.instanceMethod ({ cls := "TwoAgree", name := "sayingOtherwise", desc := "(LTwoAgree$Shelf;I)I" } : MethodName)) ∈ gtb := gt_sg sg_4 93 (by decide +kernel) (by decide +kernel)
theorem w_21 : Cond.selects m_T_sayingOtherwise.1.cls m_T_sayingOtherwise.1 m_T_sayingOtherwise.1 ∈ gtb := gt_in 21 (by decide +kernel) (by decide +kernel)
theorem lv_RX10_210 : gLV RX10 210 m_T_sayingOtherwise 2 := ⟨lb_T_sayingOtherwise, w_886, w_888, w_21⟩
abbrev m_T_dayBehind : gM := (yX10_dayBehind, cX10_dayBehind, 2, some .int)
theorem w_172 : (Cond.fieldLink "TwoAgree" (262 : Nat) "TwoAgree$Island" "day" "I") ∈ gtb := gt_sg sg_1 97 (by decide +kernel) (by decide +kernel)
theorem fl_RX10_262 : gFL RX10 262 3 9 (tyX3 9) false := ⟨RX3, TX3, 10, tyX3, rfl, uw_3, tyX3_ok, nmX3, by decide, w_172, tyX3_ok 9 (by decide), rfl⟩
theorem w_901 : (Cond.methodLink "TwoAgree" (271 : Nat) ({ cls := "java/lang/Math", name := "min", desc := "(II)I" } : MethodName)) ∈ gtb := gt_sg sg_4 106 (by decide +kernel) (by decide +kernel)
abbrev m_T_daysOn : gM := (yX10_daysOn, cX10_daysOn, 2, some .int)
abbrev m_T_days : gM := (yX10_days, cX10_days, 11, some .int)
theorem w_896 : Cond.code m_T_daysOn.1 m_T_daysOn.2.1 m_T_daysOn.2.2.1 m_T_daysOn.2.2.2 ∈ gtb := gt_sg sg_4 101 (by decide +kernel) (by decide +kernel)
theorem lb_T_daysOn : gLB m_T_daysOn 1 := ⟨w_896, w_76, by decide +kernel, by decide +kernel, by decide +kernel⟩
theorem w_895 : (Cond.static ({ cls := "TwoAgree", name := "daysOn", desc := "(LTwoAgree$Shelf;)I" } : MethodName)) ∈ gtb := gt_sg sg_4 100 (by decide +kernel) (by decide +kernel)
theorem w_894 : (Cond.methodLink "TwoAgree" (213 : Nat) ({ cls := "TwoAgree", name := "daysOn", desc := "(LTwoAgree$Shelf;)I" } : MethodName)) ∈ gtb := gt_sg sg_4 99 (by decide +kernel) (by decide +kernel)
theorem ls_RX10_213 : gLS RX10 213 m_T_daysOn 1 := ⟨lb_T_daysOn, w_894, w_895⟩
theorem w_900 : Cond.code m_T_dayBehind.1 m_T_dayBehind.2.1 m_T_dayBehind.2.2.1 m_T_dayBehind.2.2.2 ∈ gtb := gt_sg sg_4 105 (by decide +kernel) (by decide +kernel)
theorem lb_T_dayBehind : gLB m_T_dayBehind 1 := ⟨w_900, w_76, by decide +kernel, by decide +kernel, by decide +kernel⟩
theorem w_897 : (Cond.methodLink "TwoAgree" (217 : Nat) ({ cls := "TwoAgree", name := "dayBehind", desc := "(I)I" } : MethodName)) ∈ gtb := gt_sg sg_4 102 (by decide +kernel) (by decide +kernel)
theorem w_899 : (Cond.instanceMethod ({ cls := "TwoAgree", name := "dayBehind", desc := "(I)I" } : MethodName)) ∈ gtb := gt_sg sg_4 104 (by decide +kernel) (by decide +kernel)
theorem w_22 : Cond.selects m_T_dayBehind.1.cls m_T_dayBehind.1 m_T_dayBehind.1 ∈ gtb := gt_in 22 (by decide +kernel) (by decide +kernel)
theorem lv_RX10_217 : gLV RX10 217 m_T_dayBehind 1 := ⟨lb_T_dayBehind, w_897, w_899, w_22⟩
theorem w_902 : (Cond.methodLink "TwoAgree" (220 : Nat) ({ cls := "TwoAgree$Crowd", name := "gather", desc := "(LTwoAgree$Island;II)V" } : MethodName)) ∈ gtb := gt_sg sg_4 107 (by decide +kernel) (by decide +kernel)
theorem lv_RX10_220 : gLV RX10 220 m_Cr_gather 3 := ⟨lb_Cr_gather, w_902, w_718, w_719⟩
theorem w_903 : (Cond.methodLink "TwoAgree" (224 : Nat) ({ cls := "java/lang/Math", name := "max", desc := "(II)I" } : MethodName)) ∈ gtb := gt_sg sg_4 108 (by decide +kernel) (by decide +kernel)
abbrev m_T_areOfBytes : gM := (yX10_areOfBytes, cX10_areOfBytes, 2, some .boolean)
abbrev m_T_refusalOfTwo : gM := (yX10_refusalOfTwo, cX10_refusalOfTwo, 2, some .int)
abbrev m_T_judge : gM := (yX10_judge, cX10_judge, 6, some .int)
theorem w_911 : Cond.code m_T_areOfBytes.1 m_T_areOfBytes.2.1 m_T_areOfBytes.2.2.1 m_T_areOfBytes.2.2.2 ∈ gtb := gt_sg sg_4 116 (by decide +kernel) (by decide +kernel)
theorem lb_T_areOfBytes : gLB m_T_areOfBytes 1 := ⟨w_911, w_76, by decide +kernel, by decide +kernel, by decide +kernel⟩
theorem w_908 : (Cond.methodLink "TwoAgree" (229 : Nat) ({ cls := "TwoAgree", name := "areOfBytes", desc := "(I)Z" } : MethodName)) ∈ gtb := gt_sg sg_4 113 (by decide +kernel) (by decide +kernel)
theorem w_910 : (Cond.instanceMethod ({ cls := "TwoAgree", name := "areOfBytes", desc := "(I)Z" } : MethodName)) ∈ gtb := gt_sg sg_4 115 (by decide +kernel) (by decide +kernel)
theorem w_23 : Cond.selects m_T_areOfBytes.1.cls m_T_areOfBytes.1 m_T_areOfBytes.1 ∈ gtb := gt_in 23 (by decide +kernel) (by decide +kernel)
theorem lv_RX10_229 : gLV RX10 229 m_T_areOfBytes 1 := ⟨lb_T_areOfBytes, w_908, w_910, w_23⟩
theorem w_915 : Cond.code m_T_refusalOfTwo.1 m_T_refusalOfTwo.2.1 m_T_refusalOfTwo.2.2.1 m_T_refusalOfTwo.2.2.2 ∈ gtb := gt_sg sg_4 120 (by decide +kernel) (by decide +kernel)
theorem lb_T_refusalOfTwo : gLB m_T_refusalOfTwo 1 := ⟨w_915, w_76, by decide +kernel, by decide +kernel, by decide +kernel⟩
theorem w_912 : (Cond.methodLink "TwoAgree" (232 : Nat) ({ cls := "TwoAgree", name := "refusalOfTwo", desc := "(I)I" } : MethodName)) ∈ gtb := gt_sg sg_4 117 (by decide +kernel) (by decide +kernel)
theorem w_914 : (Cond.instanceMethod ({ cls := "TwoAgree", name := "refusalOfTwo", desc := "(I)I" } : MethodName)) ∈ gtb := gt_sg sg_4 119 (by decide +kernel) (by decide +kernel)
theorem w_24 : Cond.selects m_T_refusalOfTwo.1.cls m_T_refusalOfTwo.1 m_T_refusalOfTwo.1 ∈ gtb := gt_in 24 (by decide +kernel) (by decide +kernel)
theorem lv_RX10_232 : gLV RX10 232 m_T_refusalOfTwo 1 := ⟨lb_T_refusalOfTwo, w_912, w_914, w_24⟩
theorem w_417 : (Cond.fieldLink "TwoAgree" (235 : Nat) "TwoAgree$Shelf" "size" "I") ∈ gtb := gt_sg sg_2 102 (by decide +kernel) (by decide +kernel)
theorem fl_RX10_235 : gFL RX10 235 8 4 (tyX8 4) false := ⟨RX8, TX8, 5, tyX8, rfl, uw_8, tyX8_ok, nmX8, by decide, w_417, tyX8_ok 4 (by decide), rfl⟩
abbrev m_T_fitting : gM := (yX10_fitting, cX10_fitting, 13, some .int)
theorem ga_13 : gia 13 = some 10 := by decide +kernel
theorem ga_12 : gia 12 = some 10 := by decide +kernel
theorem w_145 : (Cond.fieldLink "TwoAgree" (366 : Nat) "TwoAgree$Island" "kin" "[I") ∈ gtb := gt_sg sg_1 70 (by decide +kernel) (by decide +kernel)
theorem fl_RX10_366 : gFL RX10 366 3 0 (tyX3 0) true := ⟨RX3, TX3, 10, tyX3, rfl, uw_3, tyX3_ok, nmX3, by decide, w_145, tyX3_ok 0 (by decide), rfl⟩
theorem w_205 : (Cond.fieldLink "TwoAgree" (369 : Nat) "TwoAgree$Crowd" "kin" "[I") ∈ gtb := gt_sg sg_1 130 (by decide +kernel) (by decide +kernel)
theorem fl_RX10_369 : gFL RX10 369 2 1 (tyX2 1) true := ⟨RX2, TX2, 8, tyX2, rfl, uw_2, tyX2_ok, nmX2, by decide, w_205, tyX2_ok 1 (by decide), rfl⟩
theorem gc_11_1 : gcf 11 2 1 = some (some 13) := by decide +kernel
theorem w_202 : (Cond.fieldLink "TwoAgree" (370 : Nat) "TwoAgree$Crowd" "said" "[I") ∈ gtb := gt_sg sg_1 127 (by decide +kernel) (by decide +kernel)
theorem fl_RX10_370 : gFL RX10 370 2 0 (tyX2 0) true := ⟨RX2, TX2, 8, tyX2, rfl, uw_2, tyX2_ok, nmX2, by decide, w_202, tyX2_ok 0 (by decide), rfl⟩
theorem gc_11_0 : gcf 11 2 0 = some (some 12) := by decide +kernel
theorem w_924 : (Cond.methodLink "TwoAgree" (373 : Nat) ({ cls := "TwoAgree$Island", name := "speechAs", desc := "(IIIII)I" } : MethodName)) ∈ gtb := gt_sg sg_4 129 (by decide +kernel) (by decide +kernel)
theorem lv_RX10_373 : gLV RX10 373 m_Isl_speechAs 5 := ⟨lb_Isl_speechAs, w_924, w_687, w_688⟩
abbrev m_T_fits : gM := (yX10_fits, cX10_fits, 5, some .int)
theorem w_923 : Cond.code m_T_fitting.1 m_T_fitting.2.1 m_T_fitting.2.2.1 m_T_fitting.2.2.2 ∈ gtb := gt_sg sg_4 128 (by decide +kernel) (by decide +kernel)
theorem lb_T_fitting : gLB m_T_fitting 4 := ⟨w_923, w_76, by decide +kernel, by decide +kernel, by decide +kernel⟩
theorem w_920 : (Cond.methodLink "TwoAgree" (236 : Nat) ({ cls := "TwoAgree", name := "fitting", desc := "(LTwoAgree$Shelf;LTwoAgree$Shelf;IZ)I" } : MethodName)) ∈ gtb := gt_sg sg_4 125 (by decide +kernel) (by decide +kernel)
theorem w_922 : (Cond.instanceMethod ({ cls := "TwoAgree", name := "fitting", desc := "(LTwoAgree$Shelf;LTwoAgree$Shelf;IZ)I" } : MethodName)) ∈ gtb := gt_sg sg_4 127 (by decide +kernel) (by decide +kernel)
theorem w_25 : Cond.selects m_T_fitting.1.cls m_T_fitting.1 m_T_fitting.1 ∈ gtb := gt_in 25 (by decide +kernel) (by decide +kernel)
theorem lv_RX10_236 : gLV RX10 236 m_T_fitting 4 := ⟨lb_T_fitting, w_920, w_922, w_25⟩
theorem w_925 : (Cond.methodLink "TwoAgree" (240 : Nat) ({ cls := "TwoAgree", name := "lowestOf", desc := "(I)I" } : MethodName)) ∈ gtb := gt_sg sg_4 130 (by decide +kernel) (by decide +kernel)
theorem ls_RX10_240 : gLS RX10 240 m_T_lowestOf 1 := ⟨lb_T_lowestOf, w_925, w_844⟩
abbrev m_Br_bestBuying : gM := (yX0_bestBuying, cX0_bestBuying, 9, some .int)
theorem w_241 : (Cond.fieldLink "TwoAgree$Bribes" (74 : Nat) "TwoAgree$Bribes" "weather" "I") ∈ gtb := gt_sg sg_1 166 (by decide +kernel) (by decide +kernel)
theorem fl_RX0_74 : gFL RX0 74 0 3 (tyX0 3) false := ⟨RX0, TX0, 9, tyX0, rfl, uw_0, tyX0_ok, nmX0, by decide, w_241, tyX0_ok 3 (by decide), rfl⟩
theorem gc_18_3 : gcf 18 0 3 = some none := by decide +kernel
abbrev m_Br_bestFrom : gM := (yX0_bestFrom, cX0_bestFrom, 9, some .int)
theorem w_938 : Cond.code m_Br_bestFrom.1 m_Br_bestFrom.2.1 m_Br_bestFrom.2.2.1 m_Br_bestFrom.2.2.2 ∈ gtb := gt_sg sg_4 143 (by decide +kernel) (by decide +kernel)
theorem lb_Br_bestFrom : gLB m_Br_bestFrom 4 := ⟨w_938, w_80, by decide +kernel, by decide +kernel, by decide +kernel⟩
theorem w_935 : (Cond.methodLink "TwoAgree$Bribes" (84 : Nat) ({ cls := "TwoAgree$Bribes", name := "bestFrom", desc := "(IIII)I" } : MethodName)) ∈ gtb := gt_sg sg_4 140 (by decide +kernel) (by decide +kernel)
theorem w_937 : (Cond.instanceMethod ({ cls := "TwoAgree$Bribes", name := "bestFrom", desc := "(IIII)I" } : MethodName)) ∈ gtb := gt_sg sg_4 142 (by decide +kernel) (by decide +kernel)
theorem w_26 : Cond.selects m_Br_bestFrom.1.cls m_Br_bestFrom.1 m_Br_bestFrom.1 ∈ gtb := gt_in 26 (by decide +kernel) (by decide +kernel)
theorem lv_RX0_84 : gLV RX0 84 m_Br_bestFrom 4 := ⟨lb_Br_bestFrom, w_935, w_937, w_26⟩
theorem w_242 : (Cond.fieldLink "TwoAgree$Bribes" (77 : Nat) "TwoAgree$Bribes" "turns" "I") ∈ gtb := gt_sg sg_1 167 (by decide +kernel) (by decide +kernel)
theorem fl_RX0_77 : gFL RX0 77 0 4 (tyX0 4) false := ⟨RX0, TX0, 9, tyX0, rfl, uw_0, tyX0_ok, nmX0, by decide, w_242, tyX0_ok 4 (by decide), rfl⟩
theorem gc_18_4 : gcf 18 0 4 = some none := by decide +kernel
theorem ln_RX0_91 : gLSN RX0 91 m_T_has 2 := ⟨lb_T_has, ⟨"TwoAgree", List.mem_of_getElem? (i := 18) (by decide +kernel)⟩, w_774⟩
theorem w_946 : (Cond.methodLink "TwoAgree$Bribes" (103 : Nat) ({ cls := "java/lang/Math", name := "min", desc := "(II)I" } : MethodName)) ∈ gtb := gt_sg sg_4 151 (by decide +kernel) (by decide +kernel)
theorem w_945 : Cond.code m_Br_bestBuying.1 m_Br_bestBuying.2.1 m_Br_bestBuying.2.2.1 m_Br_bestBuying.2.2.2 ∈ gtb := gt_sg sg_4 150 (by decide +kernel) (by decide +kernel)
theorem lb_Br_bestBuying : gLB m_Br_bestBuying 5 := ⟨w_945, w_80, by decide +kernel, by decide +kernel, by decide +kernel⟩
theorem w_942 : (Cond.methodLink "TwoAgree$Bribes" (99 : Nat) ({ cls := "TwoAgree$Bribes", name := "bestBuying", desc := "(IIIII)I" } : MethodName)) ∈ gtb := gt_sg sg_4 147 (by decide +kernel) (by decide +kernel)
theorem w_944 : (Cond.instanceMethod ({ cls := "TwoAgree$Bribes", name := "bestBuying", desc := "(IIIII)I" } : MethodName)) ∈ gtb := gt_sg sg_4 149 (by decide +kernel) (by decide +kernel)
theorem w_27 : Cond.selects m_Br_bestBuying.1.cls m_Br_bestBuying.1 m_Br_bestBuying.1 ∈ gtb := gt_in 27 (by decide +kernel) (by decide +kernel)
theorem lv_RX0_99 : gLV RX0 99 m_Br_bestBuying 5 := ⟨lb_Br_bestBuying, w_942, w_944, w_27⟩
theorem w_249 : (Cond.fieldLink "TwoAgree$Bribes" (80 : Nat) "TwoAgree$Bribes" "firstBought" "I") ∈ gtb := gt_sg sg_1 174 (by decide +kernel) (by decide +kernel)
theorem fl_RX0_80 : gFL RX0 80 0 8 (tyX0 8) false := ⟨RX0, TX0, 9, tyX0, rfl, uw_0, tyX0_ok, nmX0, by decide, w_249, tyX0_ok 8 (by decide), rfl⟩
theorem gc_18_8 : gcf 18 0 8 = some none := by decide +kernel
theorem w_941 : (Cond.methodLink "TwoAgree$Bribes" (94 : Nat) ({ cls := "java/lang/Math", name := "max", desc := "(II)I" } : MethodName)) ∈ gtb := gt_sg sg_4 146 (by decide +kernel) (by decide +kernel)
theorem w_939 : (Cond.methodLink "TwoAgree$Bribes" (88 : Nat) ({ cls := "TwoAgree$Crowd", name := "happensOn", desc := "(I)Z" } : MethodName)) ∈ gtb := gt_sg sg_4 144 (by decide +kernel) (by decide +kernel)
theorem lv_RX0_88 : gLV RX0 88 m_Cr_happensOn 1 := ⟨lb_Cr_happensOn, w_939, w_863, w_864⟩
abbrev m_Br_play : gM := (yX0_play, cX0_play, 3, some .int)
theorem w_934 : (Cond.constant "TwoAgree$Bribes" (83 : Nat) (-1000000 : Int32)) ∈ gtb := gt_sg sg_4 139 (by decide +kernel) (by decide +kernel)
abbrev m_T_byTurns : gM := (yX10_byTurns, cX10_byTurns, 5, some .int)
theorem w_933 : Cond.code m_Br_play.1 m_Br_play.2.1 m_Br_play.2.2.1 m_Br_play.2.2.2 ∈ gtb := gt_sg sg_4 138 (by decide +kernel) (by decide +kernel)
theorem lb_Br_play : gLB m_Br_play 2 := ⟨w_933, w_80, by decide +kernel, by decide +kernel, by decide +kernel⟩
theorem w_930 : (Cond.methodLink "TwoAgree" (243 : Nat) ({ cls := "TwoAgree$Bribes", name := "play", desc := "(II)I" } : MethodName)) ∈ gtb := gt_sg sg_4 135 (by decide +kernel) (by decide +kernel)
theorem w_931 : (Cond.instanceMethod ({ cls := "TwoAgree$Bribes", name := "play", desc := "(II)I" } : MethodName)) ∈ gtb := gt_sg sg_4 136 (by decide +kernel) (by decide +kernel)
theorem w_932 : (Cond.selects "TwoAgree$Bribes" ({ cls := "TwoAgree$Bribes", name := "play", desc := "(II)I" } : MethodName) ({ cls := "TwoAgree$Bribes", name := "play", desc := "(II)I" } : MethodName)) ∈ gtb := gt_sg sg_4 137 (by decide +kernel) (by decide +kernel)
theorem lv_RX10_243 : gLV RX10 243 m_Br_play 2 := ⟨lb_Br_play, w_930, w_931, w_932⟩
theorem w_250 : (Cond.fieldLink "TwoAgree" (246 : Nat) "TwoAgree$Bribes" "firstBought" "I") ∈ gtb := gt_sg sg_1 175 (by decide +kernel) (by decide +kernel)
theorem fl_RX10_246 : gFL RX10 246 0 8 (tyX0 8) false := ⟨RX0, TX0, 9, tyX0, rfl, uw_0, tyX0_ok, nmX0, by decide, w_250, tyX0_ok 8 (by decide), rfl⟩
abbrev m_Cr_forget : gM := (yX2_forget, cX2_forget, 1, none)
theorem gp_2_7 {c : Nat} (h : gcls c = some 2) : gia (c + 6) = some 240 := gcls_all 2 (fun c => gia (c + 6) = some 240) (by decide +kernel) c h
theorem gq_2_7 {c : Nat} (h : gcls c = some 2) : gcf c 2 7 = some (some (c + 6)) := gcls_all 2 (fun c => gcf c 2 7 = some (some (c + 6))) (by decide +kernel) c h
theorem w_212 : (Cond.fieldLink "TwoAgree$Crowd" (27 : Nat) "TwoAgree$Crowd" "saidOnce" "[I") ∈ gtb := gt_sg sg_1 137 (by decide +kernel) (by decide +kernel)
theorem fl_RX2_27 : gFL RX2 27 2 7 (tyX2 7) true := ⟨RX2, TX2, 8, tyX2, rfl, uw_2, tyX2_ok, nmX2, by decide, w_212, tyX2_ok 7 (by decide), rfl⟩
abbrev m_Cr_packed : gM := (yX2_packed, cX2_packed, 3, some .int)
abbrev m_Cr_unpack : gM := (yX2_unpack, cX2_unpack, 3, none)
abbrev m_Cr_gatherAgain : gM := (yX2_gatherAgain, cX2_gatherAgain, 6, none)
theorem w_157 : (Cond.fieldLink "TwoAgree$Crowd" (71 : Nat) "TwoAgree$Island" "law" "LTwoAgree$Law;") ∈ gtb := gt_sg sg_1 82 (by decide +kernel) (by decide +kernel)
theorem fl_RX2_71 : gFL RX2 71 3 4 (tyX3 4) true := ⟨RX3, TX3, 10, tyX3, rfl, uw_3, tyX3_ok, nmX3, by decide, w_157, tyX3_ok 4 (by decide), rfl⟩
theorem w_127 : (Cond.fieldLink "TwoAgree$Crowd" (75 : Nat) "TwoAgree$Law" "usesDay" "Z") ∈ gtb := gt_sg sg_1 52 (by decide +kernel) (by decide +kernel)
theorem fl_RX2_75 : gFL RX2 75 4 5 (tyX4 5) false := ⟨RX4, TX4, 6, tyX4, rfl, uw_4, tyX4_ok, nmX4, by decide, w_127, tyX4_ok 5 (by decide), rfl⟩
theorem w_967 : Cond.code m_Cr_packed.1 m_Cr_packed.2.1 m_Cr_packed.2.2.1 m_Cr_packed.2.2.2 ∈ gtb := gt_sg sg_4 172 (by decide +kernel) (by decide +kernel)
theorem lb_Cr_packed : gLB m_Cr_packed 0 := ⟨w_967, w_79, by decide +kernel, by decide +kernel, by decide +kernel⟩
theorem w_964 : (Cond.methodLink "TwoAgree$Crowd" (89 : Nat) ({ cls := "TwoAgree$Crowd", name := "packed", desc := "()I" } : MethodName)) ∈ gtb := gt_sg sg_4 169 (by decide +kernel) (by decide +kernel)
theorem w_966 : (Cond.instanceMethod ({ cls := "TwoAgree$Crowd", name := "packed", desc := "()I" } : MethodName)) ∈ gtb := gt_sg sg_4 171 (by decide +kernel) (by decide +kernel)
theorem w_29 : Cond.selects m_Cr_packed.1.cls m_Cr_packed.1 m_Cr_packed.1 ∈ gtb := gt_in 29 (by decide +kernel) (by decide +kernel)
theorem lv_RX2_89 : gLV RX2 89 m_Cr_packed 0 := ⟨lb_Cr_packed, w_964, w_966, w_29⟩
theorem w_963 : Cond.code m_Cr_unpack.1 m_Cr_unpack.2.1 m_Cr_unpack.2.2.1 m_Cr_unpack.2.2.2 ∈ gtb := gt_sg sg_4 168 (by decide +kernel) (by decide +kernel)
theorem lb_Cr_unpack : gLB m_Cr_unpack 1 := ⟨w_963, w_79, by decide +kernel, by decide +kernel, by decide +kernel⟩
theorem w_960 : (Cond.methodLink "TwoAgree$Crowd" (85 : Nat) ({ cls := "TwoAgree$Crowd", name := "unpack", desc := "(I)V" } : MethodName)) ∈ gtb := gt_sg sg_4 165 (by decide +kernel) (by decide +kernel)
theorem w_962 : (Cond.instanceMethod ({ cls := "TwoAgree$Crowd", name := "unpack", desc := "(I)V" } : MethodName)) ∈ gtb := gt_sg sg_4 167 (by decide +kernel) (by decide +kernel)
theorem w_28 : Cond.selects m_Cr_unpack.1.cls m_Cr_unpack.1 m_Cr_unpack.1 ∈ gtb := gt_in 28 (by decide +kernel) (by decide +kernel)
theorem lv_RX2_85 : gLV RX2 85 m_Cr_unpack 1 := ⟨lb_Cr_unpack, w_960, w_962, w_28⟩
abbrev m_T_drawn : gM := (yX10_drawn, cX10_drawn, 10, some .int)
theorem w_954 : Cond.code m_Cr_forget.1 m_Cr_forget.2.1 m_Cr_forget.2.2.1 m_Cr_forget.2.2.2 ∈ gtb := gt_sg sg_4 159 (by decide +kernel) (by decide +kernel)
theorem lb_Cr_forget : gLB m_Cr_forget 0 := ⟨w_954, w_79, by decide +kernel, by decide +kernel, by decide +kernel⟩
theorem w_951 : (Cond.methodLink "TwoAgree" (249 : Nat) ({ cls := "TwoAgree$Crowd", name := "forget", desc := "()V" } : MethodName)) ∈ gtb := gt_sg sg_4 156 (by decide +kernel) (by decide +kernel)
theorem w_952 : (Cond.instanceMethod ({ cls := "TwoAgree$Crowd", name := "forget", desc := "()V" } : MethodName)) ∈ gtb := gt_sg sg_4 157 (by decide +kernel) (by decide +kernel)
theorem w_953 : (Cond.selects "TwoAgree$Crowd" ({ cls := "TwoAgree$Crowd", name := "forget", desc := "()V" } : MethodName) ({ cls := "TwoAgree$Crowd", name := "forget", desc := "()V" } : MethodName)) ∈ gtb := gt_sg sg_4 158 (by decide +kernel) (by decide +kernel)
theorem lv_RX10_249 : gLV RX10 249 m_Cr_forget 0 := ⟨lb_Cr_forget, w_951, w_952, w_953⟩
theorem w_955 : (Cond.constant "TwoAgree" (252 : Nat) (1103515245 : Int32)) ∈ gtb := gt_sg sg_4 160 (by decide +kernel) (by decide +kernel)
theorem w_959 : Cond.code m_Cr_gatherAgain.1 m_Cr_gatherAgain.2.1 m_Cr_gatherAgain.2.2.1 m_Cr_gatherAgain.2.2.2 ∈ gtb := gt_sg sg_4 164 (by decide +kernel) (by decide +kernel)
theorem lb_Cr_gatherAgain : gLB m_Cr_gatherAgain 3 := ⟨w_959, w_79, by decide +kernel, by decide +kernel, by decide +kernel⟩
theorem w_956 : (Cond.methodLink "TwoAgree" (253 : Nat) ({ cls := "TwoAgree$Crowd", name := "gatherAgain", desc := "(LTwoAgree$Island;II)V" } : MethodName)) ∈ gtb := gt_sg sg_4 161 (by decide +kernel) (by decide +kernel)
theorem w_957 : (Cond.instanceMethod ({ cls := "TwoAgree$Crowd", name := "gatherAgain", desc := "(LTwoAgree$Island;II)V" } : MethodName)) ∈ gtb := gt_sg sg_4 162 (by decide +kernel) (by decide +kernel)
theorem w_958 : (Cond.selects "TwoAgree$Crowd" ({ cls := "TwoAgree$Crowd", name := "gatherAgain", desc := "(LTwoAgree$Island;II)V" } : MethodName) ({ cls := "TwoAgree$Crowd", name := "gatherAgain", desc := "(LTwoAgree$Island;II)V" } : MethodName)) ∈ gtb := gt_sg sg_4 163 (by decide +kernel) (by decide +kernel)
theorem lv_RX10_253 : gLV RX10 253 m_Cr_gatherAgain 3 := ⟨lb_Cr_gatherAgain, w_956, w_957, w_958⟩
abbrev m_Le_enter : gM := (yX5_enter, cX5_enter, 4, some .int)
theorem gp_5_0 {c : Nat} (h : gcls c = some 5) : gia (c + 1) = some 5 := gcls_all 5 (fun c => gia (c + 1) = some 5) (by decide +kernel) c h
theorem gq_5_0 {c : Nat} (h : gcls c = some 5) : gcf c 5 0 = some (some (c + 1)) := gcls_all 5 (fun c => gcf c 5 0 = some (some (c + 1))) (by decide +kernel) c h
theorem uw_5 : ∀ w ∈ u_ws RX5 TX5 3, w ∈ gtb := gmem_p [340, 342, 344] (by decide +kernel) (by decide +kernel)
theorem w_339 : (Cond.fieldLink "TwoAgree$Ledger" (19 : Nat) "TwoAgree$Ledger" "today" "I") ∈ gtb := gt_sg sg_2 24 (by decide +kernel) (by decide +kernel)
theorem fl_RX5_19 : gFL RX5 19 5 2 (tyX5 2) false := ⟨RX5, TX5, 3, tyX5, rfl, uw_5, tyX5_ok, nmX5, by decide, w_339, tyX5_ok 2 (by decide), rfl⟩
theorem gq_5_2 {c : Nat} (h : gcls c = some 5) : gcf c 5 2 = some none := gcls_all 5 (fun c => gcf c 5 2 = some none) (by decide +kernel) c h
theorem w_337 : (Cond.fieldLink "TwoAgree$Ledger" (23 : Nat) "TwoAgree$Ledger" "here" "I") ∈ gtb := gt_sg sg_2 22 (by decide +kernel) (by decide +kernel)
theorem fl_RX5_23 : gFL RX5 23 5 1 (tyX5 1) false := ⟨RX5, TX5, 3, tyX5, rfl, uw_5, tyX5_ok, nmX5, by decide, w_337, tyX5_ok 1 (by decide), rfl⟩
theorem gq_5_1 {c : Nat} (h : gcls c = some 5) : gcf c 5 1 = some none := gcls_all 5 (fun c => gcf c 5 1 = some none) (by decide +kernel) c h
theorem w_335 : (Cond.fieldLink "TwoAgree$Ledger" (9 : Nat) "TwoAgree$Ledger" "led" "[I") ∈ gtb := gt_sg sg_2 20 (by decide +kernel) (by decide +kernel)
theorem fl_RX5_9 : gFL RX5 9 5 0 (tyX5 0) true := ⟨RX5, TX5, 3, tyX5, rfl, uw_5, tyX5_ok, nmX5, by decide, w_335, tyX5_ok 0 (by decide), rfl⟩
theorem w_976 : (Cond.methodLink "TwoAgree$Ledger" (26 : Nat) ({ cls := "java/lang/Integer", name := "bitCount", desc := "(I)I" } : MethodName)) ∈ gtb := gt_sg sg_4 181 (by decide +kernel) (by decide +kernel)
theorem ls_RX5_26 : gLS RX5 26 m_JI_bitCount 1 := ⟨lb_JI_bitCount, w_976, w_736⟩
abbrev m_T_claim : gM := (yX10_claim, cX10_claim, 2, some .int)
theorem w_435 : (Cond.fieldLink "TwoAgree" (47 : Nat) "TwoAgree" "ledger" "LTwoAgree$Ledger;") ∈ gtb := gt_sg sg_2 120 (by decide +kernel) (by decide +kernel)
theorem fl_RX10_47 : gFL RX10 47 10 5 (tyX10 5) true := ⟨RX10, TX10, 9, tyX10, rfl, uw_10, tyX10_ok, nmX10, by decide, w_435, tyX10_ok 5 (by decide), rfl⟩
theorem gc_0_5 : gcf 0 10 5 = some (some 36) := by decide +kernel
theorem w_338 : (Cond.fieldLink "TwoAgree" (256 : Nat) "TwoAgree$Ledger" "here" "I") ∈ gtb := gt_sg sg_2 23 (by decide +kernel) (by decide +kernel)
theorem fl_RX10_256 : gFL RX10 256 5 1 (tyX5 1) false := ⟨RX5, TX5, 3, tyX5, rfl, uw_5, tyX5_ok, nmX5, by decide, w_338, tyX5_ok 1 (by decide), rfl⟩
theorem gc_36_1 : gcf 36 5 1 = some none := by decide +kernel
theorem gk_36 : gcls 36 = some 5 := by decide +kernel
theorem w_975 : Cond.code m_Le_enter.1 m_Le_enter.2.1 m_Le_enter.2.2.1 m_Le_enter.2.2.2 ∈ gtb := gt_sg sg_4 180 (by decide +kernel) (by decide +kernel)
theorem w_83 : (Cond.initialized "TwoAgree$Ledger") ∈ gtb := gt_sg sg_1 8 (by decide +kernel) (by decide +kernel)
theorem lb_Le_enter : gLB m_Le_enter 2 := ⟨w_975, w_83, by decide +kernel, by decide +kernel, by decide +kernel⟩
theorem w_972 : (Cond.methodLink "TwoAgree" (259 : Nat) ({ cls := "TwoAgree$Ledger", name := "enter", desc := "(II)I" } : MethodName)) ∈ gtb := gt_sg sg_4 177 (by decide +kernel) (by decide +kernel)
theorem w_973 : (Cond.instanceMethod ({ cls := "TwoAgree$Ledger", name := "enter", desc := "(II)I" } : MethodName)) ∈ gtb := gt_sg sg_4 178 (by decide +kernel) (by decide +kernel)
theorem w_974 : (Cond.selects "TwoAgree$Ledger" ({ cls := "TwoAgree$Ledger", name := "enter", desc := "(II)I" } : MethodName) ({ cls := "TwoAgree$Ledger", name := "enter", desc := "(II)I" } : MethodName)) ∈ gtb := gt_sg sg_4 179 (by decide +kernel) (by decide +kernel)
theorem lv_RX10_259 : gLV RX10 259 m_Le_enter 2 := ⟨lb_Le_enter, w_972, w_973, w_974⟩
abbrev m_Le_endDay : gM := (yX5_endDay, cX5_endDay, 1, none)
abbrev m_T_ends : gM := (yX10_ends, cX10_ends, 1, some .int)
theorem w_984 : Cond.code m_Le_endDay.1 m_Le_endDay.2.1 m_Le_endDay.2.2.1 m_Le_endDay.2.2.2 ∈ gtb := gt_sg sg_4 189 (by decide +kernel) (by decide +kernel)
theorem lb_Le_endDay : gLB m_Le_endDay 0 := ⟨w_984, w_83, by decide +kernel, by decide +kernel, by decide +kernel⟩
theorem w_981 : (Cond.methodLink "TwoAgree" (265 : Nat) ({ cls := "TwoAgree$Ledger", name := "endDay", desc := "()V" } : MethodName)) ∈ gtb := gt_sg sg_4 186 (by decide +kernel) (by decide +kernel)
theorem w_982 : (Cond.instanceMethod ({ cls := "TwoAgree$Ledger", name := "endDay", desc := "()V" } : MethodName)) ∈ gtb := gt_sg sg_4 187 (by decide +kernel) (by decide +kernel)
theorem w_983 : (Cond.selects "TwoAgree$Ledger" ({ cls := "TwoAgree$Ledger", name := "endDay", desc := "()V" } : MethodName) ({ cls := "TwoAgree$Ledger", name := "endDay", desc := "()V" } : MethodName)) ∈ gtb := gt_sg sg_4 188 (by decide +kernel) (by decide +kernel)
theorem lv_RX10_265 : gLV RX10 265 m_Le_endDay 0 := ⟨lb_Le_endDay, w_981, w_982, w_983⟩
abbrev m_Isl_join : gM := (yX3_join, cX3_join, 5, some .int)
abbrev m_Le_add : gM := (yX5_add, cX5_add, 3, none)
theorem ln_RX5_13 : gLSN RX5 13 m_T_within 2 := ⟨lb_T_within, ⟨"TwoAgree", List.mem_of_getElem? (i := 19) (by decide +kernel)⟩, w_463⟩
abbrev m_T_marry : gM := (yX10_marry, cX10_marry, 2, some .int)
theorem w_992 : Cond.code m_Le_add.1 m_Le_add.2.1 m_Le_add.2.2.1 m_Le_add.2.2.2 ∈ gtb := gt_sg sg_4 197 (by decide +kernel) (by decide +kernel)
theorem lb_Le_add : gLB m_Le_add 2 := ⟨w_992, w_83, by decide +kernel, by decide +kernel, by decide +kernel⟩
theorem w_989 : (Cond.methodLink "TwoAgree" (268 : Nat) ({ cls := "TwoAgree$Ledger", name := "add", desc := "(II)V" } : MethodName)) ∈ gtb := gt_sg sg_4 194 (by decide +kernel) (by decide +kernel)
theorem w_990 : (Cond.instanceMethod ({ cls := "TwoAgree$Ledger", name := "add", desc := "(II)V" } : MethodName)) ∈ gtb := gt_sg sg_4 195 (by decide +kernel) (by decide +kernel)
theorem w_991 : (Cond.selects "TwoAgree$Ledger" ({ cls := "TwoAgree$Ledger", name := "add", desc := "(II)V" } : MethodName) ({ cls := "TwoAgree$Ledger", name := "add", desc := "(II)V" } : MethodName)) ∈ gtb := gt_sg sg_4 196 (by decide +kernel) (by decide +kernel)
theorem lv_RX10_268 : gLV RX10 268 m_Le_add 2 := ⟨lb_Le_add, w_989, w_990, w_991⟩
theorem w_997 : Cond.code m_Isl_join.1 m_Isl_join.2.1 m_Isl_join.2.2.1 m_Isl_join.2.2.2 ∈ gtb := gt_sg sg_4 202 (by decide +kernel) (by decide +kernel)
theorem lb_Isl_join : gLB m_Isl_join 2 := ⟨w_997, w_77, by decide +kernel, by decide +kernel, by decide +kernel⟩
theorem w_994 : (Cond.methodLink "TwoAgree" (274 : Nat) ({ cls := "TwoAgree$Island", name := "join", desc := "(II)I" } : MethodName)) ∈ gtb := gt_sg sg_4 199 (by decide +kernel) (by decide +kernel)
theorem w_995 : (Cond.instanceMethod ({ cls := "TwoAgree$Island", name := "join", desc := "(II)I" } : MethodName)) ∈ gtb := gt_sg sg_4 200 (by decide +kernel) (by decide +kernel)
theorem w_996 : (Cond.selects "TwoAgree$Island" ({ cls := "TwoAgree$Island", name := "join", desc := "(II)I" } : MethodName) ({ cls := "TwoAgree$Island", name := "join", desc := "(II)I" } : MethodName)) ∈ gtb := gt_sg sg_4 201 (by decide +kernel) (by decide +kernel)
theorem lv_RX10_274 : gLV RX10 274 m_Isl_join 2 := ⟨lb_Isl_join, w_994, w_995, w_996⟩
abbrev m_T_paid : gM := (yX10_paid, cX10_paid, 3, some .int)
theorem w_155 : (Cond.fieldLink "TwoAgree" (277 : Nat) "TwoAgree$Island" "bought" "[I") ∈ gtb := gt_sg sg_1 80 (by decide +kernel) (by decide +kernel)
theorem fl_RX10_277 : gFL RX10 277 3 3 (tyX3 3) true := ⟨RX3, TX3, 10, tyX3, rfl, uw_3, tyX3_ok, nmX3, by decide, w_155, tyX3_ok 3 (by decide), rfl⟩
theorem w_151 : (Cond.fieldLink "TwoAgree" (281 : Nat) "TwoAgree$Island" "price" "[I") ∈ gtb := gt_sg sg_1 76 (by decide +kernel) (by decide +kernel)
theorem fl_RX10_281 : gFL RX10 281 3 2 (tyX3 2) true := ⟨RX3, TX3, 10, tyX3, rfl, uw_3, tyX3_ok, nmX3, by decide, w_151, tyX3_ok 2 (by decide), rfl⟩
abbrev m_T_led : gM := (yX10_led, cX10_led, 2, some .int)
theorem ga_37 : gia 37 = some 5 := by decide +kernel
theorem w_336 : (Cond.fieldLink "TwoAgree" (284 : Nat) "TwoAgree$Ledger" "led" "[I") ∈ gtb := gt_sg sg_2 21 (by decide +kernel) (by decide +kernel)
theorem fl_RX10_284 : gFL RX10 284 5 0 (tyX5 0) true := ⟨RX5, TX5, 3, tyX5, rfl, uw_5, tyX5_ok, nmX5, by decide, w_336, tyX5_ok 0 (by decide), rfl⟩
theorem gc_36_0 : gcf 36 5 0 = some (some 37) := by decide +kernel
abbrev m_Le_copyFrom : gM := (yX5_copyFrom, cX5_copyFrom, 2, none)
theorem w_1019 : (Cond.methodLink "TwoAgree$Ledger" (32 : Nat) ({ cls := "java/lang/System", name := "arraycopy", desc := "(Ljava/lang/Object;ILjava/lang/Object;II)V" } : MethodName)) ∈ gtb := gt_sg sg_4 224 (by decide +kernel) (by decide +kernel)
abbrev m_Pi_take : gM := (yX7_take, cX7_take, 3, none)
theorem ga_39 : gia 39 = some 10 := by decide +kernel
theorem ga_40 : gia 40 = some 10 := by decide +kernel
theorem w_143 : (Cond.fieldLink "TwoAgree$Picture" (25 : Nat) "TwoAgree$Island" "kin" "[I") ∈ gtb := gt_sg sg_1 68 (by decide +kernel) (by decide +kernel)
theorem fl_RX7_25 : gFL RX7 25 3 0 (tyX3 0) true := ⟨RX3, TX3, 10, tyX3, rfl, uw_3, tyX3_ok, nmX3, by decide, w_143, tyX3_ok 0 (by decide), rfl⟩
theorem uw_7 : ∀ w ∈ u_ws RX7 TX7 6, w ∈ gtb := gmem_p [362, 364, 366, 368, 370, 372] (by decide +kernel) (by decide +kernel)
theorem w_355 : (Cond.fieldLink "TwoAgree$Picture" (9 : Nat) "TwoAgree$Picture" "kin" "[I") ∈ gtb := gt_sg sg_2 40 (by decide +kernel) (by decide +kernel)
theorem fl_RX7_9 : gFL RX7 9 7 0 (tyX7 0) true := ⟨RX7, TX7, 6, tyX7, rfl, uw_7, tyX7_ok, nmX7, by decide, w_355, tyX7_ok 0 (by decide), rfl⟩
theorem gc_38_0 : gcf 38 7 0 = some (some 39) := by decide +kernel
theorem w_1014 : (Cond.methodLink "TwoAgree$Picture" (28 : Nat) ({ cls := "java/lang/System", name := "arraycopy", desc := "(Ljava/lang/Object;ILjava/lang/Object;II)V" } : MethodName)) ∈ gtb := gt_sg sg_4 219 (by decide +kernel) (by decide +kernel)
theorem w_153 : (Cond.fieldLink "TwoAgree$Picture" (34 : Nat) "TwoAgree$Island" "bought" "[I") ∈ gtb := gt_sg sg_1 78 (by decide +kernel) (by decide +kernel)
theorem fl_RX7_34 : gFL RX7 34 3 3 (tyX3 3) true := ⟨RX3, TX3, 10, tyX3, rfl, uw_3, tyX3_ok, nmX3, by decide, w_153, tyX3_ok 3 (by decide), rfl⟩
theorem w_356 : (Cond.fieldLink "TwoAgree$Picture" (15 : Nat) "TwoAgree$Picture" "bought" "[I") ∈ gtb := gt_sg sg_2 41 (by decide +kernel) (by decide +kernel)
theorem fl_RX7_15 : gFL RX7 15 7 1 (tyX7 1) true := ⟨RX7, TX7, 6, tyX7, rfl, uw_7, tyX7_ok, nmX7, by decide, w_356, tyX7_ok 1 (by decide), rfl⟩
theorem gc_38_1 : gcf 38 7 1 = some (some 40) := by decide +kernel
theorem w_357 : (Cond.fieldLink "TwoAgree$Picture" (21 : Nat) "TwoAgree$Picture" "kept" "LTwoAgree$Ledger;") ∈ gtb := gt_sg sg_2 42 (by decide +kernel) (by decide +kernel)
theorem fl_RX7_21 : gFL RX7 21 7 2 (tyX7 2) true := ⟨RX7, TX7, 6, tyX7, rfl, uw_7, tyX7_ok, nmX7, by decide, w_357, tyX7_ok 2 (by decide), rfl⟩
theorem gc_38_2 : gcf 38 7 2 = some (some 41) := by decide +kernel
theorem gk_41 : gcls 41 = some 5 := by decide +kernel
theorem w_1018 : Cond.code m_Le_copyFrom.1 m_Le_copyFrom.2.1 m_Le_copyFrom.2.2.1 m_Le_copyFrom.2.2.2 ∈ gtb := gt_sg sg_4 223 (by decide +kernel) (by decide +kernel)
theorem lb_Le_copyFrom : gLB m_Le_copyFrom 1 := ⟨w_1018, w_83, by decide +kernel, by decide +kernel, by decide +kernel⟩
theorem w_1015 : (Cond.methodLink "TwoAgree$Picture" (35 : Nat) ({ cls := "TwoAgree$Ledger", name := "copyFrom", desc := "(LTwoAgree$Ledger;)V" } : MethodName)) ∈ gtb := gt_sg sg_4 220 (by decide +kernel) (by decide +kernel)
theorem w_1016 : (Cond.instanceMethod ({ cls := "TwoAgree$Ledger", name := "copyFrom", desc := "(LTwoAgree$Ledger;)V" } : MethodName)) ∈ gtb := gt_sg sg_4 221 (by decide +kernel) (by decide +kernel)
theorem w_1017 : (Cond.selects "TwoAgree$Ledger" ({ cls := "TwoAgree$Ledger", name := "copyFrom", desc := "(LTwoAgree$Ledger;)V" } : MethodName) ({ cls := "TwoAgree$Ledger", name := "copyFrom", desc := "(LTwoAgree$Ledger;)V" } : MethodName)) ∈ gtb := gt_sg sg_4 222 (by decide +kernel) (by decide +kernel)
theorem lv_RX7_35 : gLV RX7 35 m_Le_copyFrom 1 := ⟨lb_Le_copyFrom, w_1015, w_1016, w_1017⟩
theorem w_161 : (Cond.fieldLink "TwoAgree$Picture" (39 : Nat) "TwoAgree$Island" "size" "I") ∈ gtb := gt_sg sg_1 86 (by decide +kernel) (by decide +kernel)
theorem fl_RX7_39 : gFL RX7 39 3 6 (tyX3 6) false := ⟨RX3, TX3, 10, tyX3, rfl, uw_3, tyX3_ok, nmX3, by decide, w_161, tyX3_ok 6 (by decide), rfl⟩
theorem w_358 : (Cond.fieldLink "TwoAgree$Picture" (43 : Nat) "TwoAgree$Picture" "size" "I") ∈ gtb := gt_sg sg_2 43 (by decide +kernel) (by decide +kernel)
theorem fl_RX7_43 : gFL RX7 43 7 3 (tyX7 3) false := ⟨RX7, TX7, 6, tyX7, rfl, uw_7, tyX7_ok, nmX7, by decide, w_358, tyX7_ok 3 (by decide), rfl⟩
theorem gc_38_3 : gcf 38 7 3 = some none := by decide +kernel
theorem w_170 : (Cond.fieldLink "TwoAgree$Picture" (44 : Nat) "TwoAgree$Island" "day" "I") ∈ gtb := gt_sg sg_1 95 (by decide +kernel) (by decide +kernel)
theorem fl_RX7_44 : gFL RX7 44 3 9 (tyX3 9) false := ⟨RX3, TX3, 10, tyX3, rfl, uw_3, tyX3_ok, nmX3, by decide, w_170, tyX3_ok 9 (by decide), rfl⟩
theorem w_359 : (Cond.fieldLink "TwoAgree$Picture" (47 : Nat) "TwoAgree$Picture" "day" "I") ∈ gtb := gt_sg sg_2 44 (by decide +kernel) (by decide +kernel)
theorem fl_RX7_47 : gFL RX7 47 7 4 (tyX7 4) false := ⟨RX7, TX7, 6, tyX7, rfl, uw_7, tyX7_ok, nmX7, by decide, w_359, tyX7_ok 4 (by decide), rfl⟩
theorem gc_38_4 : gcf 38 7 4 = some none := by decide +kernel
theorem w_360 : (Cond.fieldLink "TwoAgree$Picture" (48 : Nat) "TwoAgree$Picture" "isThere" "Z") ∈ gtb := gt_sg sg_2 45 (by decide +kernel) (by decide +kernel)
theorem fl_RX7_48 : gFL RX7 48 7 5 (tyX7 5) false := ⟨RX7, TX7, 6, tyX7, rfl, uw_7, tyX7_ok, nmX7, by decide, w_360, tyX7_ok 5 (by decide), rfl⟩
theorem gc_38_5 : gcf 38 7 5 = some none := by decide +kernel
abbrev m_T_image : gM := (yX10_image, cX10_image, 1, some .int)
theorem w_436 : (Cond.fieldLink "TwoAgree" (54 : Nat) "TwoAgree" "picture" "LTwoAgree$Picture;") ∈ gtb := gt_sg sg_2 121 (by decide +kernel) (by decide +kernel)
theorem fl_RX10_54 : gFL RX10 54 10 6 (tyX10 6) true := ⟨RX10, TX10, 9, tyX10, rfl, uw_10, tyX10_ok, nmX10, by decide, w_436, tyX10_ok 6 (by decide), rfl⟩
theorem gc_0_6 : gcf 0 10 6 = some (some 38) := by decide +kernel
theorem w_1013 : Cond.code m_Pi_take.1 m_Pi_take.2.1 m_Pi_take.2.2.1 m_Pi_take.2.2.2 ∈ gtb := gt_sg sg_4 218 (by decide +kernel) (by decide +kernel)
theorem w_84 : (Cond.initialized "TwoAgree$Picture") ∈ gtb := gt_sg sg_1 9 (by decide +kernel) (by decide +kernel)
theorem lb_Pi_take : gLB m_Pi_take 2 := ⟨w_1013, w_84, by decide +kernel, by decide +kernel, by decide +kernel⟩
theorem w_1010 : (Cond.methodLink "TwoAgree" (287 : Nat) ({ cls := "TwoAgree$Picture", name := "take", desc := "(LTwoAgree$Island;LTwoAgree$Ledger;)V" } : MethodName)) ∈ gtb := gt_sg sg_4 215 (by decide +kernel) (by decide +kernel)
theorem w_1011 : (Cond.instanceMethod ({ cls := "TwoAgree$Picture", name := "take", desc := "(LTwoAgree$Island;LTwoAgree$Ledger;)V" } : MethodName)) ∈ gtb := gt_sg sg_4 216 (by decide +kernel) (by decide +kernel)
theorem w_1012 : (Cond.selects "TwoAgree$Picture" ({ cls := "TwoAgree$Picture", name := "take", desc := "(LTwoAgree$Island;LTwoAgree$Ledger;)V" } : MethodName) ({ cls := "TwoAgree$Picture", name := "take", desc := "(LTwoAgree$Island;LTwoAgree$Ledger;)V" } : MethodName)) ∈ gtb := gt_sg sg_4 217 (by decide +kernel) (by decide +kernel)
theorem lv_RX10_287 : gLV RX10 287 m_Pi_take 2 := ⟨lb_Pi_take, w_1010, w_1011, w_1012⟩
theorem gk_38 : gcls 38 = some 7 := by decide +kernel
abbrev m_Pi_layBack : gM := (yX7_layBack, cX7_layBack, 3, none)
abbrev m_T_back : gM := (yX10_back, cX10_back, 1, some .int)
theorem w_361 : (Cond.fieldLink "TwoAgree" (291 : Nat) "TwoAgree$Picture" "isThere" "Z") ∈ gtb := gt_sg sg_2 46 (by decide +kernel) (by decide +kernel)
theorem fl_RX10_291 : gFL RX10 291 7 5 (tyX7 5) false := ⟨RX7, TX7, 6, tyX7, rfl, uw_7, tyX7_ok, nmX7, by decide, w_361, tyX7_ok 5 (by decide), rfl⟩
theorem w_1027 : Cond.code m_Pi_layBack.1 m_Pi_layBack.2.1 m_Pi_layBack.2.2.1 m_Pi_layBack.2.2.2 ∈ gtb := gt_sg sg_4 232 (by decide +kernel) (by decide +kernel)
theorem lb_Pi_layBack : gLB m_Pi_layBack 2 := ⟨w_1027, w_84, by decide +kernel, by decide +kernel, by decide +kernel⟩
theorem w_1024 : (Cond.methodLink "TwoAgree" (295 : Nat) ({ cls := "TwoAgree$Picture", name := "layBack", desc := "(LTwoAgree$Island;LTwoAgree$Ledger;)V" } : MethodName)) ∈ gtb := gt_sg sg_4 229 (by decide +kernel) (by decide +kernel)
theorem w_1025 : (Cond.instanceMethod ({ cls := "TwoAgree$Picture", name := "layBack", desc := "(LTwoAgree$Island;LTwoAgree$Ledger;)V" } : MethodName)) ∈ gtb := gt_sg sg_4 230 (by decide +kernel) (by decide +kernel)
theorem w_1026 : (Cond.selects "TwoAgree$Picture" ({ cls := "TwoAgree$Picture", name := "layBack", desc := "(LTwoAgree$Island;LTwoAgree$Ledger;)V" } : MethodName) ({ cls := "TwoAgree$Picture", name := "layBack", desc := "(LTwoAgree$Island;LTwoAgree$Ledger;)V" } : MethodName)) ∈ gtb := gt_sg sg_4 231 (by decide +kernel) (by decide +kernel)
theorem lv_RX10_295 : gLV RX10 295 m_Pi_layBack 2 := ⟨lb_Pi_layBack, w_1024, w_1025, w_1026⟩
abbrev m_Ch_stepBack : gM := (yX1_stepBack, cX1_stepBack, 2, none)
theorem w_1036 : (Cond.methodLink "TwoAgree$Changes" (38 : Nat) ({ cls := "TwoAgree$Island", name := "write", desc := "(III)V" } : MethodName)) ∈ gtb := gt_sg sg_5 1 (by decide +kernel) (by decide +kernel)
theorem lv_RX1_38 : gLV RX1 38 m_Isl_write 3 := ⟨lb_Isl_write, w_1036, w_527, w_528⟩
abbrev m_T_undo : gM := (yX10_undo, cX10_undo, 1, some .int)
theorem w_313 : (Cond.fieldLink "TwoAgree" (298 : Nat) "TwoAgree$Changes" "done" "I") ∈ gtb := gt_sg sg_1 238 (by decide +kernel) (by decide +kernel)
theorem fl_RX10_298 : gFL RX10 298 1 4 (tyX1 4) false := ⟨RX1, TX1, 6, tyX1, rfl, uw_1, tyX1_ok, nmX1, by decide, w_313, tyX1_ok 4 (by decide), rfl⟩
theorem w_1035 : Cond.code m_Ch_stepBack.1 m_Ch_stepBack.2.1 m_Ch_stepBack.2.2.1 m_Ch_stepBack.2.2.2 ∈ gtb := gt_sg sg_5 0 (by decide +kernel) (by decide +kernel)
theorem lb_Ch_stepBack : gLB m_Ch_stepBack 1 := ⟨w_1035, w_82, by decide +kernel, by decide +kernel, by decide +kernel⟩
theorem w_1032 : (Cond.methodLink "TwoAgree" (301 : Nat) ({ cls := "TwoAgree$Changes", name := "stepBack", desc := "(LTwoAgree$Island;)V" } : MethodName)) ∈ gtb := gt_sg sg_4 237 (by decide +kernel) (by decide +kernel)
theorem w_1033 : (Cond.instanceMethod ({ cls := "TwoAgree$Changes", name := "stepBack", desc := "(LTwoAgree$Island;)V" } : MethodName)) ∈ gtb := gt_sg sg_4 238 (by decide +kernel) (by decide +kernel)
theorem w_1034 : (Cond.selects "TwoAgree$Changes" ({ cls := "TwoAgree$Changes", name := "stepBack", desc := "(LTwoAgree$Island;)V" } : MethodName) ({ cls := "TwoAgree$Changes", name := "stepBack", desc := "(LTwoAgree$Island;)V" } : MethodName)) ∈ gtb := gt_sg sg_4 239 (by decide +kernel) (by decide +kernel)
theorem lv_RX10_301 : gLV RX10 301 m_Ch_stepBack 1 := ⟨lb_Ch_stepBack, w_1032, w_1033, w_1034⟩
abbrev m_Ch_stepOn : gM := (yX1_stepOn, cX1_stepOn, 2, none)
abbrev m_T_redo : gM := (yX10_redo, cX10_redo, 1, some .int)
theorem w_315 : (Cond.fieldLink "TwoAgree" (304 : Nat) "TwoAgree$Changes" "known" "I") ∈ gtb := gt_sg sg_2 0 (by decide +kernel) (by decide +kernel)
theorem fl_RX10_304 : gFL RX10 304 1 5 (tyX1 5) false := ⟨RX1, TX1, 6, tyX1, rfl, uw_1, tyX1_ok, nmX1, by decide, w_315, tyX1_ok 5 (by decide), rfl⟩
theorem w_1044 : Cond.code m_Ch_stepOn.1 m_Ch_stepOn.2.1 m_Ch_stepOn.2.2.1 m_Ch_stepOn.2.2.2 ∈ gtb := gt_sg sg_5 9 (by decide +kernel) (by decide +kernel)
theorem lb_Ch_stepOn : gLB m_Ch_stepOn 1 := ⟨w_1044, w_82, by decide +kernel, by decide +kernel, by decide +kernel⟩
theorem w_1041 : (Cond.methodLink "TwoAgree" (307 : Nat) ({ cls := "TwoAgree$Changes", name := "stepOn", desc := "(LTwoAgree$Island;)V" } : MethodName)) ∈ gtb := gt_sg sg_5 6 (by decide +kernel) (by decide +kernel)
theorem w_1042 : (Cond.instanceMethod ({ cls := "TwoAgree$Changes", name := "stepOn", desc := "(LTwoAgree$Island;)V" } : MethodName)) ∈ gtb := gt_sg sg_5 7 (by decide +kernel) (by decide +kernel)
theorem w_1043 : (Cond.selects "TwoAgree$Changes" ({ cls := "TwoAgree$Changes", name := "stepOn", desc := "(LTwoAgree$Island;)V" } : MethodName) ({ cls := "TwoAgree$Changes", name := "stepOn", desc := "(LTwoAgree$Island;)V" } : MethodName)) ∈ gtb := gt_sg sg_5 8 (by decide +kernel) (by decide +kernel)
theorem lv_RX10_307 : gLV RX10 307 m_Ch_stepOn 1 := ⟨lb_Ch_stepOn, w_1041, w_1042, w_1043⟩
abbrev m_Wo_make : gM := (yX9_make, cX9_make, 2, some .int)
theorem ga_44 : gia 44 = some 50 := by decide +kernel
theorem uw_9 : ∀ w ∈ u_ws RX9 TX9 5, w ∈ gtb := gmem_p [390, 392, 394, 396, 398] (by decide +kernel) (by decide +kernel)
theorem w_385 : (Cond.fieldLink "TwoAgree$Words" (18 : Nat) "TwoAgree$Words" "size" "I") ∈ gtb := gt_sg sg_2 70 (by decide +kernel) (by decide +kernel)
theorem fl_RX9_18 : gFL RX9 18 9 2 (tyX9 2) false := ⟨RX9, TX9, 5, tyX9, rfl, uw_9, tyX9_ok, nmX9, by decide, w_385, tyX9_ok 2 (by decide), rfl⟩
theorem gc_43_2 : gcf 43 9 2 = some none := by decide +kernel
theorem w_381 : (Cond.fieldLink "TwoAgree$Words" (11 : Nat) "TwoAgree$Words" "kinds" "[I") ∈ gtb := gt_sg sg_2 66 (by decide +kernel) (by decide +kernel)
theorem fl_RX9_11 : gFL RX9 11 9 0 (tyX9 0) true := ⟨RX9, TX9, 5, tyX9, rfl, uw_9, tyX9_ok, nmX9, by decide, w_381, tyX9_ok 0 (by decide), rfl⟩
theorem gc_43_0 : gcf 43 9 0 = some (some 44) := by decide +kernel
abbrev m_T_body : gM := (yX10_body, cX10_body, 2, some .int)
theorem w_437 : (Cond.fieldLink "TwoAgree" (61 : Nat) "TwoAgree" "words" "LTwoAgree$Words;") ∈ gtb := gt_sg sg_2 122 (by decide +kernel) (by decide +kernel)
theorem fl_RX10_61 : gFL RX10 61 10 7 (tyX10 7) true := ⟨RX10, TX10, 9, tyX10, rfl, uw_10, tyX10_ok, nmX10, by decide, w_437, tyX10_ok 7 (by decide), rfl⟩
theorem gc_0_7 : gcf 0 10 7 = some (some 43) := by decide +kernel
theorem w_1052 : Cond.code m_Wo_make.1 m_Wo_make.2.1 m_Wo_make.2.2.1 m_Wo_make.2.2.2 ∈ gtb := gt_sg sg_5 17 (by decide +kernel) (by decide +kernel)
theorem w_85 : (Cond.initialized "TwoAgree$Words") ∈ gtb := gt_sg sg_1 10 (by decide +kernel) (by decide +kernel)
theorem lb_Wo_make : gLB m_Wo_make 1 := ⟨w_1052, w_85, by decide +kernel, by decide +kernel, by decide +kernel⟩
theorem w_1049 : (Cond.methodLink "TwoAgree" (310 : Nat) ({ cls := "TwoAgree$Words", name := "make", desc := "(I)I" } : MethodName)) ∈ gtb := gt_sg sg_5 14 (by decide +kernel) (by decide +kernel)
theorem w_1050 : (Cond.instanceMethod ({ cls := "TwoAgree$Words", name := "make", desc := "(I)I" } : MethodName)) ∈ gtb := gt_sg sg_5 15 (by decide +kernel) (by decide +kernel)
theorem w_1051 : (Cond.selects "TwoAgree$Words" ({ cls := "TwoAgree$Words", name := "make", desc := "(I)I" } : MethodName) ({ cls := "TwoAgree$Words", name := "make", desc := "(I)I" } : MethodName)) ∈ gtb := gt_sg sg_5 16 (by decide +kernel) (by decide +kernel)
theorem lv_RX10_310 : gLV RX10 310 m_Wo_make 1 := ⟨lb_Wo_make, w_1049, w_1050, w_1051⟩
theorem gk_43 : gcls 43 = some 9 := by decide +kernel
abbrev m_Wo_note : gM := (yX9_note, cX9_note, 2, none)
theorem ga_45 : gia 45 = some 24 := by decide +kernel
theorem w_387 : (Cond.fieldLink "TwoAgree$Words" (29 : Nat) "TwoAgree$Words" "ran" "I") ∈ gtb := gt_sg sg_2 72 (by decide +kernel) (by decide +kernel)
theorem fl_RX9_29 : gFL RX9 29 9 3 (tyX9 3) false := ⟨RX9, TX9, 5, tyX9, rfl, uw_9, tyX9_ok, nmX9, by decide, w_387, tyX9_ok 3 (by decide), rfl⟩
theorem gc_43_3 : gcf 43 9 3 = some none := by decide +kernel
theorem w_383 : (Cond.fieldLink "TwoAgree$Words" (15 : Nat) "TwoAgree$Words" "traced" "[I") ∈ gtb := gt_sg sg_2 68 (by decide +kernel) (by decide +kernel)
theorem fl_RX9_15 : gFL RX9 15 9 1 (tyX9 1) true := ⟨RX9, TX9, 5, tyX9, rfl, uw_9, tyX9_ok, nmX9, by decide, w_383, tyX9_ok 1 (by decide), rfl⟩
theorem gc_43_1 : gcf 43 9 1 = some (some 45) := by decide +kernel
abbrev m_Wo_owner : gM := (yX9_owner, cX9_owner, 4, some .int)
theorem ln_RX9_22 : gLSN RX9 22 m_T_within 2 := ⟨lb_T_within, ⟨"TwoAgree", List.mem_of_getElem? (i := 20) (by decide +kernel)⟩, w_463⟩
theorem w_1069 : (Cond.fieldLink "TwoAgree$Words" (39 : Nat) "TwoAgree$Words" "OWN" "[I") ∈ gtb := gt_sg sg_5 34 (by decide +kernel) (by decide +kernel)
theorem w_1071 : (Cond.fieldLink "TwoAgree$Words" (26 : Nat) "TwoAgree$Words" "ABOVE" "[I") ∈ gtb := gt_sg sg_5 36 (by decide +kernel) (by decide +kernel)
abbrev m_Wo_run : gM := (yX9_run, cX9_run, 10, some .int)
theorem w_1068 : Cond.code m_Wo_owner.1 m_Wo_owner.2.1 m_Wo_owner.2.2.1 m_Wo_owner.2.2.2 ∈ gtb := gt_sg sg_5 33 (by decide +kernel) (by decide +kernel)
theorem lb_Wo_owner : gLB m_Wo_owner 2 := ⟨w_1068, w_85, by decide +kernel, by decide +kernel, by decide +kernel⟩
theorem w_1067 : (Cond.static ({ cls := "TwoAgree$Words", name := "owner", desc := "(II)I" } : MethodName)) ∈ gtb := gt_sg sg_5 32 (by decide +kernel) (by decide +kernel)
theorem w_1066 : (Cond.methodLink "TwoAgree$Words" (42 : Nat) ({ cls := "TwoAgree$Words", name := "owner", desc := "(II)I" } : MethodName)) ∈ gtb := gt_sg sg_5 31 (by decide +kernel) (by decide +kernel)
theorem ls_RX9_42 : gLS RX9 42 m_Wo_owner 2 := ⟨lb_Wo_owner, w_1066, w_1067⟩
theorem w_389 : (Cond.fieldLink "TwoAgree$Words" (32 : Nat) "TwoAgree$Words" "number" "I") ∈ gtb := gt_sg sg_2 74 (by decide +kernel) (by decide +kernel)
theorem fl_RX9_32 : gFL RX9 32 9 4 (tyX9 4) false := ⟨RX9, TX9, 5, tyX9, rfl, uw_9, tyX9_ok, nmX9, by decide, w_389, tyX9_ok 4 (by decide), rfl⟩
theorem gc_43_4 : gcf 43 9 4 = some none := by decide +kernel
theorem w_1076 : Cond.code m_Wo_note.1 m_Wo_note.2.1 m_Wo_note.2.2.1 m_Wo_note.2.2.2 ∈ gtb := gt_sg sg_5 41 (by decide +kernel) (by decide +kernel)
theorem lb_Wo_note : gLB m_Wo_note 1 := ⟨w_1076, w_85, by decide +kernel, by decide +kernel, by decide +kernel⟩
theorem w_1073 : (Cond.methodLink "TwoAgree$Words" (46 : Nat) ({ cls := "TwoAgree$Words", name := "note", desc := "(I)V" } : MethodName)) ∈ gtb := gt_sg sg_5 38 (by decide +kernel) (by decide +kernel)
theorem w_1075 : (Cond.instanceMethod ({ cls := "TwoAgree$Words", name := "note", desc := "(I)V" } : MethodName)) ∈ gtb := gt_sg sg_5 40 (by decide +kernel) (by decide +kernel)
theorem w_31 : Cond.selects m_Wo_note.1.cls m_Wo_note.1 m_Wo_note.1 ∈ gtb := gt_in 31 (by decide +kernel) (by decide +kernel)
theorem lv_RX9_46 : gLV RX9 46 m_Wo_note 1 := ⟨lb_Wo_note, w_1073, w_1075, w_31⟩
theorem w_1065 : Cond.code m_Wo_run.1 m_Wo_run.2.1 m_Wo_run.2.2.1 m_Wo_run.2.2.2 ∈ gtb := gt_sg sg_5 30 (by decide +kernel) (by decide +kernel)
theorem lb_Wo_run : gLB m_Wo_run 4 := ⟨w_1065, w_85, by decide +kernel, by decide +kernel, by decide +kernel⟩
theorem w_1062 : (Cond.methodLink "TwoAgree$Words" (35 : Nat) ({ cls := "TwoAgree$Words", name := "run", desc := "(IIII)I" } : MethodName)) ∈ gtb := gt_sg sg_5 27 (by decide +kernel) (by decide +kernel)
theorem w_1064 : (Cond.instanceMethod ({ cls := "TwoAgree$Words", name := "run", desc := "(IIII)I" } : MethodName)) ∈ gtb := gt_sg sg_5 29 (by decide +kernel) (by decide +kernel)
theorem w_30 : Cond.selects m_Wo_run.1.cls m_Wo_run.1 m_Wo_run.1 ∈ gtb := gt_in 30 (by decide +kernel) (by decide +kernel)
theorem lv_RX9_35 : gLV RX9 35 m_Wo_run 4 := ⟨lb_Wo_run, w_1062, w_1064, w_30⟩
abbrev m_Wo_start : gM := (yX9_start, cX9_start, 4, some .int)
abbrev m_T_act : gM := (yX10_act, cX10_act, 4, some .int)
theorem w_1060 : Cond.code m_Wo_start.1 m_Wo_start.2.1 m_Wo_start.2.2.1 m_Wo_start.2.2.2 ∈ gtb := gt_sg sg_5 25 (by decide +kernel) (by decide +kernel)
theorem lb_Wo_start : gLB m_Wo_start 3 := ⟨w_1060, w_85, by decide +kernel, by decide +kernel, by decide +kernel⟩
theorem w_1057 : (Cond.methodLink "TwoAgree" (313 : Nat) ({ cls := "TwoAgree$Words", name := "start", desc := "(III)I" } : MethodName)) ∈ gtb := gt_sg sg_5 22 (by decide +kernel) (by decide +kernel)
theorem w_1058 : (Cond.instanceMethod ({ cls := "TwoAgree$Words", name := "start", desc := "(III)I" } : MethodName)) ∈ gtb := gt_sg sg_5 23 (by decide +kernel) (by decide +kernel)
theorem w_1059 : (Cond.selects "TwoAgree$Words" ({ cls := "TwoAgree$Words", name := "start", desc := "(III)I" } : MethodName) ({ cls := "TwoAgree$Words", name := "start", desc := "(III)I" } : MethodName)) ∈ gtb := gt_sg sg_5 24 (by decide +kernel) (by decide +kernel)
theorem lv_RX10_313 : gLV RX10 313 m_Wo_start 3 := ⟨lb_Wo_start, w_1057, w_1058, w_1059⟩
abbrev m_T_trace : gM := (yX10_trace, cX10_trace, 2, some .int)
theorem w_388 : (Cond.fieldLink "TwoAgree" (316 : Nat) "TwoAgree$Words" "ran" "I") ∈ gtb := gt_sg sg_2 73 (by decide +kernel) (by decide +kernel)
theorem fl_RX10_316 : gFL RX10 316 9 3 (tyX9 3) false := ⟨RX9, TX9, 5, tyX9, rfl, uw_9, tyX9_ok, nmX9, by decide, w_388, tyX9_ok 3 (by decide), rfl⟩
theorem w_384 : (Cond.fieldLink "TwoAgree" (319 : Nat) "TwoAgree$Words" "traced" "[I") ∈ gtb := gt_sg sg_2 69 (by decide +kernel) (by decide +kernel)
theorem fl_RX10_319 : gFL RX10 319 9 1 (tyX9 1) true := ⟨RX9, TX9, 5, tyX9, rfl, uw_9, tyX9_ok, nmX9, by decide, w_384, tyX9_ok 1 (by decide), rfl⟩
abbrev m_Sh_holdWord : gM := (yX8_holdWord, cX8_holdWord, 2, none)
theorem w_412 : (Cond.fieldLink "TwoAgree$Shelf" (19 : Nat) "TwoAgree$Shelf" "word" "I") ∈ gtb := gt_sg sg_2 97 (by decide +kernel) (by decide +kernel)
theorem fl_RX8_19 : gFL RX8 19 8 2 (tyX8 2) false := ⟨RX8, TX8, 5, tyX8, rfl, uw_8, tyX8_ok, nmX8, by decide, w_412, tyX8_ok 2 (by decide), rfl⟩
theorem gq_8_2 {c : Nat} (h : gcls c = some 8) : gcf c 8 2 = some none := gcls_all 8 (fun c => gcf c 8 2 = some none) (by decide +kernel) c h
abbrev m_T_keep : gM := (yX10_keep, cX10_keep, 3, some .int)
theorem w_1088 : Cond.code m_Sh_holdWord.1 m_Sh_holdWord.2.1 m_Sh_holdWord.2.2.1 m_Sh_holdWord.2.2.2 ∈ gtb := gt_sg sg_5 53 (by decide +kernel) (by decide +kernel)
theorem lb_Sh_holdWord : gLB m_Sh_holdWord 1 := ⟨w_1088, w_86, by decide +kernel, by decide +kernel, by decide +kernel⟩
theorem w_1085 : (Cond.methodLink "TwoAgree" (323 : Nat) ({ cls := "TwoAgree$Shelf", name := "holdWord", desc := "(I)V" } : MethodName)) ∈ gtb := gt_sg sg_5 50 (by decide +kernel) (by decide +kernel)
theorem w_1086 : (Cond.instanceMethod ({ cls := "TwoAgree$Shelf", name := "holdWord", desc := "(I)V" } : MethodName)) ∈ gtb := gt_sg sg_5 51 (by decide +kernel) (by decide +kernel)
theorem w_1087 : (Cond.selects "TwoAgree$Shelf" ({ cls := "TwoAgree$Shelf", name := "holdWord", desc := "(I)V" } : MethodName) ({ cls := "TwoAgree$Shelf", name := "holdWord", desc := "(I)V" } : MethodName)) ∈ gtb := gt_sg sg_5 52 (by decide +kernel) (by decide +kernel)
theorem lv_RX10_323 : gLV RX10 323 m_Sh_holdWord 1 := ⟨lb_Sh_holdWord, w_1085, w_1086, w_1087⟩
theorem w_386 : (Cond.fieldLink "TwoAgree" (322 : Nat) "TwoAgree$Words" "size" "I") ∈ gtb := gt_sg sg_2 71 (by decide +kernel) (by decide +kernel)
theorem fl_RX10_322 : gFL RX10 322 9 2 (tyX9 2) false := ⟨RX9, TX9, 5, tyX9, rfl, uw_9, tyX9_ok, nmX9, by decide, w_386, tyX9_ok 2 (by decide), rfl⟩
abbrev m_Sh_holdRow : gM := (yX8_holdRow, cX8_holdRow, 3, none)
abbrev m_JA_fillJ : gM := (yJ7_fill_d0a16, cJ7_fill_d0a16, 5, none)
theorem w_1099 : Cond.code m_JA_fillJ.1 m_JA_fillJ.2.1 m_JA_fillJ.2.2.1 m_JA_fillJ.2.2.2 ∈ gtb := gt_sg sg_5 64 (by decide +kernel) (by decide +kernel)
theorem lb_JA_fillJ : gLB m_JA_fillJ 2 := ⟨w_1099, w_95, by decide +kernel, by decide +kernel, by decide +kernel⟩
theorem w_1098 : (Cond.static ({ cls := "java/util/Arrays", name := "fill", desc := "([JJ)V" } : MethodName)) ∈ gtb := gt_sg sg_5 63 (by decide +kernel) (by decide +kernel)
theorem w_1097 : (Cond.methodLink "TwoAgree$Shelf" (22 : Nat) ({ cls := "java/util/Arrays", name := "fill", desc := "([JJ)V" } : MethodName)) ∈ gtb := gt_sg sg_5 62 (by decide +kernel) (by decide +kernel)
theorem ls_RX8_22 : gLS RX8 22 m_JA_fillJ 2 := ⟨lb_JA_fillJ, w_1097, w_1098⟩
abbrev m_T_row : gM := (yX10_row, cX10_row, 4, some .int)
theorem w_1096 : Cond.code m_Sh_holdRow.1 m_Sh_holdRow.2.1 m_Sh_holdRow.2.2.1 m_Sh_holdRow.2.2.2 ∈ gtb := gt_sg sg_5 61 (by decide +kernel) (by decide +kernel)
theorem lb_Sh_holdRow : gLB m_Sh_holdRow 2 := ⟨w_1096, w_86, by decide +kernel, by decide +kernel, by decide +kernel⟩
theorem w_1093 : (Cond.methodLink "TwoAgree" (327 : Nat) ({ cls := "TwoAgree$Shelf", name := "holdRow", desc := "(II)V" } : MethodName)) ∈ gtb := gt_sg sg_5 58 (by decide +kernel) (by decide +kernel)
theorem w_1094 : (Cond.instanceMethod ({ cls := "TwoAgree$Shelf", name := "holdRow", desc := "(II)V" } : MethodName)) ∈ gtb := gt_sg sg_5 59 (by decide +kernel) (by decide +kernel)
theorem w_1095 : (Cond.selects "TwoAgree$Shelf" ({ cls := "TwoAgree$Shelf", name := "holdRow", desc := "(II)V" } : MethodName) ({ cls := "TwoAgree$Shelf", name := "holdRow", desc := "(II)V" } : MethodName)) ∈ gtb := gt_sg sg_5 60 (by decide +kernel) (by decide +kernel)
theorem lv_RX10_327 : gLV RX10 327 m_Sh_holdRow 2 := ⟨lb_Sh_holdRow, w_1093, w_1094, w_1095⟩
abbrev m_Sh_kept : gM := (yX8_kept, cX8_kept, 3, some .long)
abbrev m_T_put : gM := (yX10_put, cX10_put, 6, some .int)
theorem w_409 : (Cond.fieldLink "TwoAgree" (330 : Nat) "TwoAgree$Shelf" "cells" "[J") ∈ gtb := gt_sg sg_2 94 (by decide +kernel) (by decide +kernel)
theorem fl_RX10_330 : gFL RX10 330 8 0 (tyX8 0) true := ⟨RX8, TX8, 5, tyX8, rfl, uw_8, tyX8_ok, nmX8, by decide, w_409, tyX8_ok 0 (by decide), rfl⟩
theorem w_1107 : Cond.code m_Sh_kept.1 m_Sh_kept.2.1 m_Sh_kept.2.2.1 m_Sh_kept.2.2.2 ∈ gtb := gt_sg sg_5 72 (by decide +kernel) (by decide +kernel)
theorem lb_Sh_kept : gLB m_Sh_kept 1 := ⟨w_1107, w_86, by decide +kernel, by decide +kernel, by decide +kernel⟩
theorem w_1104 : (Cond.methodLink "TwoAgree" (334 : Nat) ({ cls := "TwoAgree$Shelf", name := "kept", desc := "(J)J" } : MethodName)) ∈ gtb := gt_sg sg_5 69 (by decide +kernel) (by decide +kernel)
theorem w_1105 : (Cond.instanceMethod ({ cls := "TwoAgree$Shelf", name := "kept", desc := "(J)J" } : MethodName)) ∈ gtb := gt_sg sg_5 70 (by decide +kernel) (by decide +kernel)
theorem w_1106 : (Cond.selects "TwoAgree$Shelf" ({ cls := "TwoAgree$Shelf", name := "kept", desc := "(J)J" } : MethodName) ({ cls := "TwoAgree$Shelf", name := "kept", desc := "(J)J" } : MethodName)) ∈ gtb := gt_sg sg_5 71 (by decide +kernel) (by decide +kernel)
theorem lv_RX10_334 : gLV RX10 334 m_Sh_kept 1 := ⟨lb_Sh_kept, w_1104, w_1105, w_1106⟩
abbrev m_T_element : gM := (yX10_element, cX10_element, 3, some .long)
abbrev m_T_shift : gM := (yX10_shift, cX10_shift, 8, some .int)
theorem w_415 : (Cond.fieldLink "TwoAgree" (338 : Nat) "TwoAgree$Shelf" "sort" "I") ∈ gtb := gt_sg sg_2 100 (by decide +kernel) (by decide +kernel)
theorem fl_RX10_338 : gFL RX10 338 8 3 (tyX8 3) false := ⟨RX8, TX8, 5, tyX8, rfl, uw_8, tyX8_ok, nmX8, by decide, w_415, tyX8_ok 3 (by decide), rfl⟩
theorem w_1116 : (Cond.methodLink "TwoAgree" (341 : Nat) ({ cls := "java/lang/System", name := "arraycopy", desc := "(Ljava/lang/Object;ILjava/lang/Object;II)V" } : MethodName)) ∈ gtb := gt_sg sg_5 81 (by decide +kernel) (by decide +kernel)
abbrev m_Wo_isUnder : gM := (yX9_isUnder, cX9_isUnder, 5, some .boolean)
abbrev m_T_taken : gM := (yX10_taken, cX10_taken, 4, some .int)
theorem w_413 : (Cond.fieldLink "TwoAgree" (347 : Nat) "TwoAgree$Shelf" "word" "I") ∈ gtb := gt_sg sg_2 98 (by decide +kernel) (by decide +kernel)
theorem fl_RX10_347 : gFL RX10 347 8 2 (tyX8 2) false := ⟨RX8, TX8, 5, tyX8, rfl, uw_8, tyX8_ok, nmX8, by decide, w_413, tyX8_ok 2 (by decide), rfl⟩
theorem w_1124 : Cond.code m_Wo_isUnder.1 m_Wo_isUnder.2.1 m_Wo_isUnder.2.2.1 m_Wo_isUnder.2.2.2 ∈ gtb := gt_sg sg_5 89 (by decide +kernel) (by decide +kernel)
theorem lb_Wo_isUnder : gLB m_Wo_isUnder 2 := ⟨w_1124, w_85, by decide +kernel, by decide +kernel, by decide +kernel⟩
theorem w_1121 : (Cond.methodLink "TwoAgree" (350 : Nat) ({ cls := "TwoAgree$Words", name := "isUnder", desc := "(II)Z" } : MethodName)) ∈ gtb := gt_sg sg_5 86 (by decide +kernel) (by decide +kernel)
theorem w_1122 : (Cond.instanceMethod ({ cls := "TwoAgree$Words", name := "isUnder", desc := "(II)Z" } : MethodName)) ∈ gtb := gt_sg sg_5 87 (by decide +kernel) (by decide +kernel)
theorem w_1123 : (Cond.selects "TwoAgree$Words" ({ cls := "TwoAgree$Words", name := "isUnder", desc := "(II)Z" } : MethodName) ({ cls := "TwoAgree$Words", name := "isUnder", desc := "(II)Z" } : MethodName)) ∈ gtb := gt_sg sg_5 88 (by decide +kernel) (by decide +kernel)
theorem lv_RX10_350 : gLV RX10 350 m_Wo_isUnder 2 := ⟨lb_Wo_isUnder, w_1121, w_1122, w_1123⟩
theorem w_382 : (Cond.fieldLink "TwoAgree" (353 : Nat) "TwoAgree$Words" "kinds" "[I") ∈ gtb := gt_sg sg_2 67 (by decide +kernel) (by decide +kernel)
theorem fl_RX10_353 : gFL RX10 353 9 0 (tyX9 0) true := ⟨RX9, TX9, 5, tyX9, rfl, uw_9, tyX9_ok, nmX9, by decide, w_382, tyX9_ok 0 (by decide), rfl⟩
abbrev m_T_count : gM := (yX10_count, cX10_count, 2, some .int)
theorem w_280 : (Cond.fieldLink "TwoAgree" (356 : Nat) "TwoAgree$Parser" "length" "I") ∈ gtb := gt_sg sg_1 205 (by decide +kernel) (by decide +kernel)
theorem fl_RX10_356 : gFL RX10 356 6 3 (tyX6 3) false := ⟨RX6, TX6, 8, tyX6, rfl, uw_6, tyX6_ok, nmX6, by decide, w_280, tyX6_ok 3 (by decide), rfl⟩
abbrev m_M_within : gM := (yX11_within, cX11_within, 6, some .boolean)
abbrev m_M_isIn : gM := (yX11_isIn, cX11_isIn, 2, some .boolean)
abbrev m_M_bitsOf : gM := (yX11_bitsOf, cX11_bitsOf, 3, some .int)
abbrev m_M_becomes : gM := (yX11_becomes, cX11_becomes, 5, some .int)
theorem ga_60 : gia 60 = some 43 := by decide +kernel
theorem ga_61 : gia 61 = some 40 := by decide +kernel
theorem ga_62 : gia 62 = some 40 := by decide +kernel
theorem ga_63 : gia 63 = some 40 := by decide +kernel
theorem uw_11 : ∀ w ∈ u_ws RX11 TX11 40, w ∈ gtb := gmem_p [1175, 1177, 1179, 1181, 1183, 1185, 1187, 1189, 1191, 1193, 1195, 1197, 1199, 1201, 1203, 1205, 1207, 1209, 1211, 1213, 1215, 1217, 1219, 1221, 1223, 1225, 1227, 1229, 1231, 1233, 1235, 1237, 1239, 1241, 1243, 1245, 1247, 1249, 1251, 1253] (by decide +kernel) (by decide +kernel)
theorem w_1135 : (Cond.fieldLink "TwoAgreeModel" (9 : Nat) "TwoAgreeModel" "may" "[I") ∈ gtb := gt_sg sg_5 100 (by decide +kernel) (by decide +kernel)
theorem fl_RX11_9 : gFL RX11 9 11 0 (tyX11 0) true := ⟨RX11, TX11, 40, tyX11, rfl, uw_11, tyX11_ok, nmX11, by decide, w_1135, tyX11_ok 0 (by decide), rfl⟩
theorem gc_59_0 : gcf 59 11 0 = some (some 60) := by decide +kernel
theorem w_1140 : (Cond.fieldLink "TwoAgreeModel" (75 : Nat) "TwoAgreeModel" "done" "I") ∈ gtb := gt_sg sg_5 105 (by decide +kernel) (by decide +kernel)
theorem fl_RX11_75 : gFL RX11 75 11 5 (tyX11 5) false := ⟨RX11, TX11, 40, tyX11, rfl, uw_11, tyX11_ok, nmX11, by decide, w_1140, tyX11_ok 5 (by decide), rfl⟩
theorem gc_59_5 : gcf 59 11 5 = some none := by decide +kernel
theorem w_1136 : (Cond.fieldLink "TwoAgreeModel" (13 : Nat) "TwoAgreeModel" "changeAt" "[I") ∈ gtb := gt_sg sg_5 101 (by decide +kernel) (by decide +kernel)
theorem fl_RX11_13 : gFL RX11 13 11 1 (tyX11 1) true := ⟨RX11, TX11, 40, tyX11, rfl, uw_11, tyX11_ok, nmX11, by decide, w_1136, tyX11_ok 1 (by decide), rfl⟩
theorem gc_59_1 : gcf 59 11 1 = some (some 61) := by decide +kernel
theorem w_1137 : (Cond.fieldLink "TwoAgreeModel" (16 : Nat) "TwoAgreeModel" "changeWas" "[I") ∈ gtb := gt_sg sg_5 102 (by decide +kernel) (by decide +kernel)
theorem fl_RX11_16 : gFL RX11 16 11 2 (tyX11 2) true := ⟨RX11, TX11, 40, tyX11, rfl, uw_11, tyX11_ok, nmX11, by decide, w_1137, tyX11_ok 2 (by decide), rfl⟩
theorem gc_59_2 : gcf 59 11 2 = some (some 62) := by decide +kernel
theorem w_1138 : (Cond.fieldLink "TwoAgreeModel" (19 : Nat) "TwoAgreeModel" "changeIs" "[I") ∈ gtb := gt_sg sg_5 103 (by decide +kernel) (by decide +kernel)
theorem fl_RX11_19 : gFL RX11 19 11 3 (tyX11 3) true := ⟨RX11, TX11, 40, tyX11, rfl, uw_11, tyX11_ok, nmX11, by decide, w_1138, tyX11_ok 3 (by decide), rfl⟩
theorem gc_59_3 : gcf 59 11 3 = some (some 63) := by decide +kernel
theorem w_1139 : (Cond.fieldLink "TwoAgreeModel" (78 : Nat) "TwoAgreeModel" "keptMany" "I") ∈ gtb := gt_sg sg_5 104 (by decide +kernel) (by decide +kernel)
theorem fl_RX11_78 : gFL RX11 78 11 4 (tyX11 4) false := ⟨RX11, TX11, 40, tyX11, rfl, uw_11, tyX11_ok, nmX11, by decide, w_1139, tyX11_ok 4 (by decide), rfl⟩
theorem gc_59_4 : gcf 59 11 4 = some none := by decide +kernel
abbrev m_M_undo : gM := (yX11_undo, cX11_undo, 1, some .int)
abbrev m_M_redo : gM := (yX11_redo, cX11_redo, 1, some .int)
abbrev m_M_isOne : gM := (yX11_isOne, cX11_isOne, 3, some .boolean)
theorem w_1141 : (Cond.fieldLink "TwoAgreeModel" (81 : Nat) "TwoAgreeModel" "people" "I") ∈ gtb := gt_sg sg_5 106 (by decide +kernel) (by decide +kernel)
theorem fl_RX11_81 : gFL RX11 81 11 6 (tyX11 6) false := ⟨RX11, TX11, 40, tyX11, rfl, uw_11, tyX11_ok, nmX11, by decide, w_1141, tyX11_ok 6 (by decide), rfl⟩
theorem gc_59_6 : gcf 59 11 6 = some none := by decide +kernel
theorem w_1274 : Cond.code m_M_within.1 m_M_within.2.1 m_M_within.2.2.1 m_M_within.2.2.2 ∈ gtb := gt_sg sg_5 239 (by decide +kernel) (by decide +kernel)
theorem w_87 : (Cond.initialized "TwoAgreeModel") ∈ gtb := gt_sg sg_1 12 (by decide +kernel) (by decide +kernel)
theorem lb_M_within : gLB m_M_within 3 := ⟨w_1274, w_87, by decide +kernel, by decide +kernel, by decide +kernel⟩
theorem w_1273 : (Cond.static ({ cls := "TwoAgreeModel", name := "within", desc := "(JJJ)Z" } : MethodName)) ∈ gtb := gt_sg sg_5 238 (by decide +kernel) (by decide +kernel)
theorem w_1272 : (Cond.methodLink "TwoAgreeModel" (84 : Nat) ({ cls := "TwoAgreeModel", name := "within", desc := "(JJJ)Z" } : MethodName)) ∈ gtb := gt_sg sg_5 237 (by decide +kernel) (by decide +kernel)
theorem ls_RX11_84 : gLS RX11 84 m_M_within 3 := ⟨lb_M_within, w_1272, w_1273⟩
abbrev m_M_isWeather : gM := (yX11_isWeather, cX11_isWeather, 2, some .boolean)
theorem w_1288 : (Cond.constantLong "TwoAgreeModel" (88 : Nat) (5 : Int64)) ∈ gtb := gt_sg sg_6 13 (by decide +kernel) (by decide +kernel)
abbrev m_M_mayCome : gM := (yX11_mayCome, cX11_mayCome, 6, some .boolean)
theorem w_1271 : (Cond.constantLong "TwoAgreeModel" (90 : Nat) (7 : Int64)) ∈ gtb := gt_sg sg_5 236 (by decide +kernel) (by decide +kernel)
theorem w_1275 : (Cond.constantLong "TwoAgreeModel" (92 : Nat) (12 : Int64)) ∈ gtb := gt_sg sg_6 0 (by decide +kernel) (by decide +kernel)
theorem w_1276 : (Cond.constantLong "TwoAgreeModel" (94 : Nat) (99 : Int64)) ∈ gtb := gt_sg sg_6 1 (by decide +kernel) (by decide +kernel)
abbrev m_M_adds : gM := (yX11_adds, cX11_adds, 4, none)
abbrev m_M_citizen : gM := (yX11_citizen, cX11_citizen, 2, some .int)
theorem w_1270 : Cond.code m_M_mayCome.1 m_M_mayCome.2.1 m_M_mayCome.2.2.1 m_M_mayCome.2.2.2 ∈ gtb := gt_sg sg_5 235 (by decide +kernel) (by decide +kernel)
theorem lb_M_mayCome : gLB m_M_mayCome 3 := ⟨w_1270, w_87, by decide +kernel, by decide +kernel, by decide +kernel⟩
theorem w_1269 : (Cond.static ({ cls := "TwoAgreeModel", name := "mayCome", desc := "(JJJ)Z" } : MethodName)) ∈ gtb := gt_sg sg_5 234 (by decide +kernel) (by decide +kernel)
theorem w_1268 : (Cond.methodLink "TwoAgreeModel" (96 : Nat) ({ cls := "TwoAgreeModel", name := "mayCome", desc := "(JJJ)Z" } : MethodName)) ∈ gtb := gt_sg sg_5 233 (by decide +kernel) (by decide +kernel)
theorem ls_RX11_96 : gLS RX11 96 m_M_mayCome 3 := ⟨lb_M_mayCome, w_1268, w_1269⟩
theorem w_1280 : Cond.code m_M_adds.1 m_M_adds.2.1 m_M_adds.2.2.1 m_M_adds.2.2.2 ∈ gtb := gt_sg sg_6 5 (by decide +kernel) (by decide +kernel)
theorem lb_M_adds : gLB m_M_adds 3 := ⟨w_1280, w_87, by decide +kernel, by decide +kernel, by decide +kernel⟩
theorem w_1277 : (Cond.methodLink "TwoAgreeModel" (99 : Nat) ({ cls := "TwoAgreeModel", name := "adds", desc := "(III)V" } : MethodName)) ∈ gtb := gt_sg sg_6 2 (by decide +kernel) (by decide +kernel)
theorem w_1279 : (Cond.instanceMethod ({ cls := "TwoAgreeModel", name := "adds", desc := "(III)V" } : MethodName)) ∈ gtb := gt_sg sg_6 4 (by decide +kernel) (by decide +kernel)
theorem w_32 : Cond.selects m_M_adds.1.cls m_M_adds.1 m_M_adds.1 ∈ gtb := gt_in 32 (by decide +kernel) (by decide +kernel)
theorem lv_RX11_99 : gLV RX11 99 m_M_adds 3 := ⟨lb_M_adds, w_1277, w_1279, w_32⟩
theorem gk_59 : gcls 59 = some 11 := by decide +kernel
abbrev m_M_isShelf : gM := (yX11_isShelf, cX11_isShelf, 1, some .boolean)
abbrev m_M_citizens : gM := (yX11_citizens, cX11_citizens, 7, some .int)
theorem ga_76 : gia 76 = some 6 := by decide +kernel
theorem ga_77 : gia 77 = some 6 := by decide +kernel
theorem ga_78 : gla 78 = some 360 := by decide +kernel
theorem w_1287 : Cond.code m_M_isShelf.1 m_M_isShelf.2.1 m_M_isShelf.2.2.1 m_M_isShelf.2.2.2 ∈ gtb := gt_sg sg_6 12 (by decide +kernel) (by decide +kernel)
theorem lb_M_isShelf : gLB m_M_isShelf 1 := ⟨w_1287, w_87, by decide +kernel, by decide +kernel, by decide +kernel⟩
theorem w_1286 : (Cond.static ({ cls := "TwoAgreeModel", name := "isShelf", desc := "(I)Z" } : MethodName)) ∈ gtb := gt_sg sg_6 11 (by decide +kernel) (by decide +kernel)
theorem w_1285 : (Cond.methodLink "TwoAgreeModel" (103 : Nat) ({ cls := "TwoAgreeModel", name := "isShelf", desc := "(I)Z" } : MethodName)) ∈ gtb := gt_sg sg_6 10 (by decide +kernel) (by decide +kernel)
theorem ls_RX11_103 : gLS RX11 103 m_M_isShelf 1 := ⟨lb_M_isShelf, w_1285, w_1286⟩
theorem w_1289 : (Cond.constantLong "TwoAgreeModel" (107 : Nat) (10 : Int64)) ∈ gtb := gt_sg sg_6 14 (by decide +kernel) (by decide +kernel)
theorem w_1171 : (Cond.fieldLink "TwoAgreeModel" (58 : Nat) "TwoAgreeModel" "shelf" "[I") ∈ gtb := gt_sg sg_5 136 (by decide +kernel) (by decide +kernel)
theorem fl_RX11_58 : gFL RX11 58 11 36 (tyX11 36) true := ⟨RX11, TX11, 40, tyX11, rfl, uw_11, tyX11_ok, nmX11, by decide, w_1171, tyX11_ok 36 (by decide), rfl⟩
theorem gc_59_36 : gcf 59 11 36 = some (some 76) := by decide +kernel
theorem w_1172 : (Cond.fieldLink "TwoAgreeModel" (61 : Nat) "TwoAgreeModel" "many" "[I") ∈ gtb := gt_sg sg_5 137 (by decide +kernel) (by decide +kernel)
theorem fl_RX11_61 : gFL RX11 61 11 37 (tyX11 37) true := ⟨RX11, TX11, 40, tyX11, rfl, uw_11, tyX11_ok, nmX11, by decide, w_1172, tyX11_ok 37 (by decide), rfl⟩
theorem gc_59_37 : gcf 59 11 37 = some (some 77) := by decide +kernel
theorem w_1173 : (Cond.fieldLink "TwoAgreeModel" (64 : Nat) "TwoAgreeModel" "items" "[J") ∈ gtb := gt_sg sg_5 138 (by decide +kernel) (by decide +kernel)
theorem fl_RX11_64 : gFL RX11 64 11 38 (tyX11 38) true := ⟨RX11, TX11, 40, tyX11, rfl, uw_11, tyX11_ok, nmX11, by decide, w_1173, tyX11_ok 38 (by decide), rfl⟩
theorem gc_59_38 : gcf 59 11 38 = some (some 78) := by decide +kernel
abbrev m_M_placeOf : gM := (yX11_placeOf, cX11_placeOf, 3, some .int)
theorem w_1298 : (Cond.constantLong "TwoAgreeModel" (109 : Nat) (3 : Int64)) ∈ gtb := gt_sg sg_6 23 (by decide +kernel) (by decide +kernel)
theorem w_1303 : (Cond.constantLong "TwoAgreeModel" (115 : Nat) (4 : Int64)) ∈ gtb := gt_sg sg_6 28 (by decide +kernel) (by decide +kernel)
theorem w_1304 : (Cond.constantLong "TwoAgreeModel" (117 : Nat) (6 : Int64)) ∈ gtb := gt_sg sg_6 29 (by decide +kernel) (by decide +kernel)
theorem w_1302 : Cond.code m_M_isOne.1 m_M_isOne.2.1 m_M_isOne.2.2.1 m_M_isOne.2.2.2 ∈ gtb := gt_sg sg_6 27 (by decide +kernel) (by decide +kernel)
theorem lb_M_isOne : gLB m_M_isOne 1 := ⟨w_1302, w_87, by decide +kernel, by decide +kernel, by decide +kernel⟩
theorem w_1299 : (Cond.methodLink "TwoAgreeModel" (111 : Nat) ({ cls := "TwoAgreeModel", name := "isOne", desc := "(J)Z" } : MethodName)) ∈ gtb := gt_sg sg_6 24 (by decide +kernel) (by decide +kernel)
theorem w_1301 : (Cond.instanceMethod ({ cls := "TwoAgreeModel", name := "isOne", desc := "(J)Z" } : MethodName)) ∈ gtb := gt_sg sg_6 26 (by decide +kernel) (by decide +kernel)
theorem w_34 : Cond.selects m_M_isOne.1.cls m_M_isOne.1 m_M_isOne.1 ∈ gtb := gt_in 34 (by decide +kernel) (by decide +kernel)
theorem lv_RX11_111 : gLV RX11 111 m_M_isOne 1 := ⟨lb_M_isOne, w_1299, w_1301, w_34⟩
abbrev m_M_mayBecome : gM := (yX11_mayBecome, cX11_mayBecome, 2, some .boolean)
theorem w_1310 : Cond.code m_M_isWeather.1 m_M_isWeather.2.1 m_M_isWeather.2.2.1 m_M_isWeather.2.2.2 ∈ gtb := gt_sg sg_6 35 (by decide +kernel) (by decide +kernel)
theorem lb_M_isWeather : gLB m_M_isWeather 1 := ⟨w_1310, w_87, by decide +kernel, by decide +kernel, by decide +kernel⟩
theorem w_1309 : (Cond.static ({ cls := "TwoAgreeModel", name := "isWeather", desc := "(J)Z" } : MethodName)) ∈ gtb := gt_sg sg_6 34 (by decide +kernel) (by decide +kernel)
theorem w_1308 : (Cond.methodLink "TwoAgreeModel" (119 : Nat) ({ cls := "TwoAgreeModel", name := "isWeather", desc := "(J)Z" } : MethodName)) ∈ gtb := gt_sg sg_6 33 (by decide +kernel) (by decide +kernel)
theorem ls_RX11_119 : gLS RX11 119 m_M_isWeather 1 := ⟨lb_M_isWeather, w_1308, w_1309⟩
theorem w_1311 : (Cond.constantLong "TwoAgreeModel" (122 : Nat) (2 : Int64)) ∈ gtb := gt_sg sg_6 36 (by decide +kernel) (by decide +kernel)
abbrev m_M_mend : gM := (yX11_mend, cX11_mend, 5, some .int)
theorem w_1297 : Cond.code m_M_placeOf.1 m_M_placeOf.2.1 m_M_placeOf.2.2.1 m_M_placeOf.2.2.2 ∈ gtb := gt_sg sg_6 22 (by decide +kernel) (by decide +kernel)
theorem lb_M_placeOf : gLB m_M_placeOf 2 := ⟨w_1297, w_87, by decide +kernel, by decide +kernel, by decide +kernel⟩
theorem w_1294 : (Cond.methodLink "TwoAgreeModel" (124 : Nat) ({ cls := "TwoAgreeModel", name := "placeOf", desc := "(II)I" } : MethodName)) ∈ gtb := gt_sg sg_6 19 (by decide +kernel) (by decide +kernel)
theorem w_1296 : (Cond.instanceMethod ({ cls := "TwoAgreeModel", name := "placeOf", desc := "(II)I" } : MethodName)) ∈ gtb := gt_sg sg_6 21 (by decide +kernel) (by decide +kernel)
theorem w_33 : Cond.selects m_M_placeOf.1.cls m_M_placeOf.1 m_M_placeOf.1 ∈ gtb := gt_in 33 (by decide +kernel) (by decide +kernel)
theorem lv_RX11_124 : gLV RX11 124 m_M_placeOf 2 := ⟨lb_M_placeOf, w_1294, w_1296, w_33⟩
theorem w_1316 : (Cond.constant "TwoAgreeModel" (135 : Nat) (-2000000000 : Int32)) ∈ gtb := gt_sg sg_6 41 (by decide +kernel) (by decide +kernel)
theorem w_1307 : Cond.code m_M_mayBecome.1 m_M_mayBecome.2.1 m_M_mayBecome.2.2.1 m_M_mayBecome.2.2.2 ∈ gtb := gt_sg sg_6 32 (by decide +kernel) (by decide +kernel)
theorem lb_M_mayBecome : gLB m_M_mayBecome 2 := ⟨w_1307, w_87, by decide +kernel, by decide +kernel, by decide +kernel⟩
theorem w_1306 : (Cond.static ({ cls := "TwoAgreeModel", name := "mayBecome", desc := "(II)Z" } : MethodName)) ∈ gtb := gt_sg sg_6 31 (by decide +kernel) (by decide +kernel)
theorem w_1305 : (Cond.methodLink "TwoAgreeModel" (128 : Nat) ({ cls := "TwoAgreeModel", name := "mayBecome", desc := "(II)Z" } : MethodName)) ∈ gtb := gt_sg sg_6 30 (by decide +kernel) (by decide +kernel)
theorem ls_RX11_128 : gLS RX11 128 m_M_mayBecome 2 := ⟨lb_M_mayBecome, w_1305, w_1306⟩
theorem w_1315 : Cond.code m_M_becomes.1 m_M_becomes.2.1 m_M_becomes.2.2.1 m_M_becomes.2.2.2 ∈ gtb := gt_sg sg_6 40 (by decide +kernel) (by decide +kernel)
theorem lb_M_becomes : gLB m_M_becomes 2 := ⟨w_1315, w_87, by decide +kernel, by decide +kernel, by decide +kernel⟩
theorem w_1312 : (Cond.methodLink "TwoAgreeModel" (132 : Nat) ({ cls := "TwoAgreeModel", name := "becomes", desc := "(II)I" } : MethodName)) ∈ gtb := gt_sg sg_6 37 (by decide +kernel) (by decide +kernel)
theorem w_1314 : (Cond.instanceMethod ({ cls := "TwoAgreeModel", name := "becomes", desc := "(II)I" } : MethodName)) ∈ gtb := gt_sg sg_6 39 (by decide +kernel) (by decide +kernel)
theorem w_35 : Cond.selects m_M_becomes.1.cls m_M_becomes.1 m_M_becomes.1 ∈ gtb := gt_in 35 (by decide +kernel) (by decide +kernel)
theorem lv_RX11_132 : gLV RX11 132 m_M_becomes 2 := ⟨lb_M_becomes, w_1312, w_1314, w_35⟩
abbrev m_M_of : gM := (yX11_of, cX11_of, 4, some .int)
abbrev m_M_feed : gM := (yX11_feed, cX11_feed, 2, some .int)
theorem ga_64 : gia 64 = some 120 := by decide +kernel
theorem w_1325 : (Cond.constantLong "TwoAgreeModel" (136 : Nat) (255 : Int64)) ∈ gtb := gt_sg sg_6 50 (by decide +kernel) (by decide +kernel)
theorem w_1143 : (Cond.fieldLink "TwoAgreeModel" (138 : Nat) "TwoAgreeModel" "tapeMany" "I") ∈ gtb := gt_sg sg_5 108 (by decide +kernel) (by decide +kernel)
theorem fl_RX11_138 : gFL RX11 138 11 8 (tyX11 8) false := ⟨RX11, TX11, 40, tyX11, rfl, uw_11, tyX11_ok, nmX11, by decide, w_1143, tyX11_ok 8 (by decide), rfl⟩
theorem gc_59_8 : gcf 59 11 8 = some none := by decide +kernel
theorem w_1142 : (Cond.fieldLink "TwoAgreeModel" (22 : Nat) "TwoAgreeModel" "tape" "[I") ∈ gtb := gt_sg sg_5 107 (by decide +kernel) (by decide +kernel)
theorem fl_RX11_22 : gFL RX11 22 11 7 (tyX11 7) true := ⟨RX11, TX11, 40, tyX11, rfl, uw_11, tyX11_ok, nmX11, by decide, w_1142, tyX11_ok 7 (by decide), rfl⟩
theorem gc_59_7 : gcf 59 11 7 = some (some 64) := by decide +kernel
abbrev m_M_byteAt : gM := (yX11_byteAt, cX11_byteAt, 1, some .int)
theorem ga_65 : gia 65 = some 120 := by decide +kernel
theorem w_1147 : (Cond.fieldLink "TwoAgreeModel" (141 : Nat) "TwoAgreeModel" "at" "I") ∈ gtb := gt_sg sg_5 112 (by decide +kernel) (by decide +kernel)
theorem fl_RX11_141 : gFL RX11 141 11 12 (tyX11 12) false := ⟨RX11, TX11, 40, tyX11, rfl, uw_11, tyX11_ok, nmX11, by decide, w_1147, tyX11_ok 12 (by decide), rfl⟩
theorem gc_59_12 : gcf 59 11 12 = some none := by decide +kernel
theorem w_1148 : (Cond.fieldLink "TwoAgreeModel" (144 : Nat) "TwoAgreeModel" "ends" "I") ∈ gtb := gt_sg sg_5 113 (by decide +kernel) (by decide +kernel)
theorem fl_RX11_144 : gFL RX11 144 11 13 (tyX11 13) false := ⟨RX11, TX11, 40, tyX11, rfl, uw_11, tyX11_ok, nmX11, by decide, w_1148, tyX11_ok 13 (by decide), rfl⟩
theorem gc_59_13 : gcf 59 11 13 = some none := by decide +kernel
theorem w_1146 : (Cond.fieldLink "TwoAgreeModel" (147 : Nat) "TwoAgreeModel" "base" "I") ∈ gtb := gt_sg sg_5 111 (by decide +kernel) (by decide +kernel)
theorem fl_RX11_147 : gFL RX11 147 11 11 (tyX11 11) false := ⟨RX11, TX11, 40, tyX11, rfl, uw_11, tyX11_ok, nmX11, by decide, w_1146, tyX11_ok 11 (by decide), rfl⟩
theorem gc_59_11 : gcf 59 11 11 = some none := by decide +kernel
theorem w_1144 : (Cond.fieldLink "TwoAgreeModel" (25 : Nat) "TwoAgreeModel" "text" "[I") ∈ gtb := gt_sg sg_5 109 (by decide +kernel) (by decide +kernel)
theorem fl_RX11_25 : gFL RX11 25 11 9 (tyX11 9) true := ⟨RX11, TX11, 40, tyX11, rfl, uw_11, tyX11_ok, nmX11, by decide, w_1144, tyX11_ok 9 (by decide), rfl⟩
theorem gc_59_9 : gcf 59 11 9 = some (some 65) := by decide +kernel
abbrev m_M_wrong : gM := (yX11_wrong, cX11_wrong, 1, some .int)
theorem w_1149 : (Cond.fieldLink "TwoAgreeModel" (150 : Nat) "TwoAgreeModel" "fault" "I") ∈ gtb := gt_sg sg_5 114 (by decide +kernel) (by decide +kernel)
theorem fl_RX11_150 : gFL RX11 150 11 14 (tyX11 14) false := ⟨RX11, TX11, 40, tyX11, rfl, uw_11, tyX11_ok, nmX11, by decide, w_1149, tyX11_ok 14 (by decide), rfl⟩
theorem gc_59_14 : gcf 59 11 14 = some none := by decide +kernel
abbrev m_M_takes : gM := (yX11_takes, cX11_takes, 2, some .boolean)
theorem w_1361 : Cond.code m_M_byteAt.1 m_M_byteAt.2.1 m_M_byteAt.2.2.1 m_M_byteAt.2.2.2 ∈ gtb := gt_sg sg_6 86 (by decide +kernel) (by decide +kernel)
theorem lb_M_byteAt : gLB m_M_byteAt 0 := ⟨w_1361, w_87, by decide +kernel, by decide +kernel, by decide +kernel⟩
theorem w_1358 : (Cond.methodLink "TwoAgreeModel" (153 : Nat) ({ cls := "TwoAgreeModel", name := "byteAt", desc := "()I" } : MethodName)) ∈ gtb := gt_sg sg_6 83 (by decide +kernel) (by decide +kernel)
theorem w_1360 : (Cond.instanceMethod ({ cls := "TwoAgreeModel", name := "byteAt", desc := "()I" } : MethodName)) ∈ gtb := gt_sg sg_6 85 (by decide +kernel) (by decide +kernel)
theorem w_43 : Cond.selects m_M_byteAt.1.cls m_M_byteAt.1 m_M_byteAt.1 ∈ gtb := gt_in 43 (by decide +kernel) (by decide +kernel)
theorem lv_RX11_153 : gLV RX11 153 m_M_byteAt 0 := ⟨lb_M_byteAt, w_1358, w_1360, w_43⟩
abbrev m_M_nameOf : gM := (yX11_nameOf, cX11_nameOf, 1, some .int)
abbrev m_M_product : gM := (yX11_product, cX11_product, 4, some .int)
abbrev m_M_one : gM := (yX11_one, cX11_one, 5, some .int)
theorem w_1357 : Cond.code m_M_one.1 m_M_one.2.1 m_M_one.2.2.1 m_M_one.2.2.2 ∈ gtb := gt_sg sg_6 82 (by decide +kernel) (by decide +kernel)
theorem lb_M_one : gLB m_M_one 0 := ⟨w_1357, w_87, by decide +kernel, by decide +kernel, by decide +kernel⟩
theorem w_1354 : (Cond.methodLink "TwoAgreeModel" (172 : Nat) ({ cls := "TwoAgreeModel", name := "one", desc := "()I" } : MethodName)) ∈ gtb := gt_sg sg_6 79 (by decide +kernel) (by decide +kernel)
theorem w_1356 : (Cond.instanceMethod ({ cls := "TwoAgreeModel", name := "one", desc := "()I" } : MethodName)) ∈ gtb := gt_sg sg_6 81 (by decide +kernel) (by decide +kernel)
theorem w_42 : Cond.selects m_M_one.1.cls m_M_one.1 m_M_one.1 ∈ gtb := gt_in 42 (by decide +kernel) (by decide +kernel)
theorem lv_RX11_172 : gLV RX11 172 m_M_one 0 := ⟨lb_M_one, w_1354, w_1356, w_42⟩
abbrev m_M_sums : gM := (yX11_sums, cX11_sums, 4, some .int)
theorem w_1353 : Cond.code m_M_product.1 m_M_product.2.1 m_M_product.2.2.1 m_M_product.2.2.2 ∈ gtb := gt_sg sg_6 78 (by decide +kernel) (by decide +kernel)
theorem lb_M_product : gLB m_M_product 0 := ⟨w_1353, w_87, by decide +kernel, by decide +kernel, by decide +kernel⟩
theorem w_1350 : (Cond.methodLink "TwoAgreeModel" (169 : Nat) ({ cls := "TwoAgreeModel", name := "product", desc := "()I" } : MethodName)) ∈ gtb := gt_sg sg_6 75 (by decide +kernel) (by decide +kernel)
theorem w_1352 : (Cond.instanceMethod ({ cls := "TwoAgreeModel", name := "product", desc := "()I" } : MethodName)) ∈ gtb := gt_sg sg_6 77 (by decide +kernel) (by decide +kernel)
theorem w_41 : Cond.selects m_M_product.1.cls m_M_product.1 m_M_product.1 ∈ gtb := gt_in 41 (by decide +kernel) (by decide +kernel)
theorem lv_RX11_169 : gLV RX11 169 m_M_product 0 := ⟨lb_M_product, w_1350, w_1352, w_41⟩
abbrev m_M_compared : gM := (yX11_compared, cX11_compared, 4, some .int)
theorem w_1349 : Cond.code m_M_sums.1 m_M_sums.2.1 m_M_sums.2.2.1 m_M_sums.2.2.2 ∈ gtb := gt_sg sg_6 74 (by decide +kernel) (by decide +kernel)
theorem lb_M_sums : gLB m_M_sums 0 := ⟨w_1349, w_87, by decide +kernel, by decide +kernel, by decide +kernel⟩
theorem w_1346 : (Cond.methodLink "TwoAgreeModel" (166 : Nat) ({ cls := "TwoAgreeModel", name := "sums", desc := "()I" } : MethodName)) ∈ gtb := gt_sg sg_6 71 (by decide +kernel) (by decide +kernel)
theorem w_1348 : (Cond.instanceMethod ({ cls := "TwoAgreeModel", name := "sums", desc := "()I" } : MethodName)) ∈ gtb := gt_sg sg_6 73 (by decide +kernel) (by decide +kernel)
theorem w_40 : Cond.selects m_M_sums.1.cls m_M_sums.1 m_M_sums.1 ∈ gtb := gt_in 40 (by decide +kernel) (by decide +kernel)
theorem lv_RX11_166 : gLV RX11 166 m_M_sums 0 := ⟨lb_M_sums, w_1346, w_1348, w_40⟩
abbrev m_M_both : gM := (yX11_both, cX11_both, 3, some .int)
theorem w_1345 : Cond.code m_M_compared.1 m_M_compared.2.1 m_M_compared.2.2.1 m_M_compared.2.2.2 ∈ gtb := gt_sg sg_6 70 (by decide +kernel) (by decide +kernel)
theorem lb_M_compared : gLB m_M_compared 0 := ⟨w_1345, w_87, by decide +kernel, by decide +kernel, by decide +kernel⟩
theorem w_1342 : (Cond.methodLink "TwoAgreeModel" (163 : Nat) ({ cls := "TwoAgreeModel", name := "compared", desc := "()I" } : MethodName)) ∈ gtb := gt_sg sg_6 67 (by decide +kernel) (by decide +kernel)
theorem w_1344 : (Cond.instanceMethod ({ cls := "TwoAgreeModel", name := "compared", desc := "()I" } : MethodName)) ∈ gtb := gt_sg sg_6 69 (by decide +kernel) (by decide +kernel)
theorem w_39 : Cond.selects m_M_compared.1.cls m_M_compared.1 m_M_compared.1 ∈ gtb := gt_in 39 (by decide +kernel) (by decide +kernel)
theorem lv_RX11_163 : gLV RX11 163 m_M_compared 0 := ⟨lb_M_compared, w_1342, w_1344, w_39⟩
theorem w_1369 : Cond.code m_M_takes.1 m_M_takes.2.1 m_M_takes.2.2.1 m_M_takes.2.2.2 ∈ gtb := gt_sg sg_6 94 (by decide +kernel) (by decide +kernel)
theorem lb_M_takes : gLB m_M_takes 1 := ⟨w_1369, w_87, by decide +kernel, by decide +kernel, by decide +kernel⟩
theorem w_1366 : (Cond.methodLink "TwoAgreeModel" (160 : Nat) ({ cls := "TwoAgreeModel", name := "takes", desc := "(I)Z" } : MethodName)) ∈ gtb := gt_sg sg_6 91 (by decide +kernel) (by decide +kernel)
theorem w_1368 : (Cond.instanceMethod ({ cls := "TwoAgreeModel", name := "takes", desc := "(I)Z" } : MethodName)) ∈ gtb := gt_sg sg_6 93 (by decide +kernel) (by decide +kernel)
theorem w_45 : Cond.selects m_M_takes.1.cls m_M_takes.1 m_M_takes.1 ∈ gtb := gt_in 45 (by decide +kernel) (by decide +kernel)
theorem lv_RX11_160 : gLV RX11 160 m_M_takes 1 := ⟨lb_M_takes, w_1366, w_1368, w_45⟩
abbrev m_M_either : gM := (yX11_either, cX11_either, 3, some .int)
theorem w_1341 : Cond.code m_M_both.1 m_M_both.2.1 m_M_both.2.2.1 m_M_both.2.2.2 ∈ gtb := gt_sg sg_6 66 (by decide +kernel) (by decide +kernel)
theorem lb_M_both : gLB m_M_both 0 := ⟨w_1341, w_87, by decide +kernel, by decide +kernel, by decide +kernel⟩
theorem w_1338 : (Cond.methodLink "TwoAgreeModel" (157 : Nat) ({ cls := "TwoAgreeModel", name := "both", desc := "()I" } : MethodName)) ∈ gtb := gt_sg sg_6 63 (by decide +kernel) (by decide +kernel)
theorem w_1340 : (Cond.instanceMethod ({ cls := "TwoAgreeModel", name := "both", desc := "()I" } : MethodName)) ∈ gtb := gt_sg sg_6 65 (by decide +kernel) (by decide +kernel)
theorem w_38 : Cond.selects m_M_both.1.cls m_M_both.1 m_M_both.1 ∈ gtb := gt_in 38 (by decide +kernel) (by decide +kernel)
theorem lv_RX11_157 : gLV RX11 157 m_M_both 0 := ⟨lb_M_both, w_1338, w_1340, w_38⟩
theorem ga_66 : gia 66 = some 6 := by decide +kernel
theorem w_1150 : (Cond.fieldLink "TwoAgreeModel" (175 : Nat) "TwoAgreeModel" "opened" "I") ∈ gtb := gt_sg sg_5 115 (by decide +kernel) (by decide +kernel)
theorem fl_RX11_175 : gFL RX11 175 11 15 (tyX11 15) false := ⟨RX11, TX11, 40, tyX11, rfl, uw_11, tyX11_ok, nmX11, by decide, w_1150, tyX11_ok 15 (by decide), rfl⟩
theorem gc_59_15 : gcf 59 11 15 = some none := by decide +kernel
theorem w_1365 : Cond.code m_M_wrong.1 m_M_wrong.2.1 m_M_wrong.2.2.1 m_M_wrong.2.2.2 ∈ gtb := gt_sg sg_6 90 (by decide +kernel) (by decide +kernel)
theorem lb_M_wrong : gLB m_M_wrong 0 := ⟨w_1365, w_87, by decide +kernel, by decide +kernel, by decide +kernel⟩
theorem w_1362 : (Cond.methodLink "TwoAgreeModel" (178 : Nat) ({ cls := "TwoAgreeModel", name := "wrong", desc := "()I" } : MethodName)) ∈ gtb := gt_sg sg_6 87 (by decide +kernel) (by decide +kernel)
theorem w_1364 : (Cond.instanceMethod ({ cls := "TwoAgreeModel", name := "wrong", desc := "()I" } : MethodName)) ∈ gtb := gt_sg sg_6 89 (by decide +kernel) (by decide +kernel)
theorem w_44 : Cond.selects m_M_wrong.1.cls m_M_wrong.1 m_M_wrong.1 ∈ gtb := gt_in 44 (by decide +kernel) (by decide +kernel)
theorem lv_RX11_178 : gLV RX11 178 m_M_wrong 0 := ⟨lb_M_wrong, w_1362, w_1364, w_44⟩
theorem w_1337 : Cond.code m_M_either.1 m_M_either.2.1 m_M_either.2.2.1 m_M_either.2.2.2 ∈ gtb := gt_sg sg_6 62 (by decide +kernel) (by decide +kernel)
theorem lb_M_either : gLB m_M_either 0 := ⟨w_1337, w_87, by decide +kernel, by decide +kernel, by decide +kernel⟩
theorem w_1334 : (Cond.methodLink "TwoAgreeModel" (181 : Nat) ({ cls := "TwoAgreeModel", name := "either", desc := "()I" } : MethodName)) ∈ gtb := gt_sg sg_6 59 (by decide +kernel) (by decide +kernel)
theorem w_1336 : (Cond.instanceMethod ({ cls := "TwoAgreeModel", name := "either", desc := "()I" } : MethodName)) ∈ gtb := gt_sg sg_6 61 (by decide +kernel) (by decide +kernel)
theorem w_37 : Cond.selects m_M_either.1.cls m_M_either.1 m_M_either.1 ∈ gtb := gt_in 37 (by decide +kernel) (by decide +kernel)
theorem lv_RX11_181 : gLV RX11 181 m_M_either 0 := ⟨lb_M_either, w_1334, w_1336, w_37⟩
theorem w_1372 : Cond.code m_M_nameOf.1 m_M_nameOf.2.1 m_M_nameOf.2.2.1 m_M_nameOf.2.2.2 ∈ gtb := gt_sg sg_6 97 (by decide +kernel) (by decide +kernel)
theorem lb_M_nameOf : gLB m_M_nameOf 1 := ⟨w_1372, w_87, by decide +kernel, by decide +kernel, by decide +kernel⟩
theorem w_1371 : (Cond.static ({ cls := "TwoAgreeModel", name := "nameOf", desc := "(I)I" } : MethodName)) ∈ gtb := gt_sg sg_6 96 (by decide +kernel) (by decide +kernel)
theorem w_1370 : (Cond.methodLink "TwoAgreeModel" (184 : Nat) ({ cls := "TwoAgreeModel", name := "nameOf", desc := "(I)I" } : MethodName)) ∈ gtb := gt_sg sg_6 95 (by decide +kernel) (by decide +kernel)
theorem ls_RX11_184 : gLS RX11 184 m_M_nameOf 1 := ⟨lb_M_nameOf, w_1370, w_1371⟩
theorem w_1151 : (Cond.fieldLink "TwoAgreeModel" (28 : Nat) "TwoAgreeModel" "names" "[I") ∈ gtb := gt_sg sg_5 116 (by decide +kernel) (by decide +kernel)
theorem fl_RX11_28 : gFL RX11 28 11 16 (tyX11 16) true := ⟨RX11, TX11, 40, tyX11, rfl, uw_11, tyX11_ok, nmX11, by decide, w_1151, tyX11_ok 16 (by decide), rfl⟩
theorem gc_59_16 : gcf 59 11 16 = some (some 66) := by decide +kernel
abbrev m_M_workOut : gM := (yX11_workOut, cX11_workOut, 8, some .int)
abbrev m_M_law : gM := (yX11_law, cX11_law, 4, some .int)
theorem w_1333 : Cond.code m_M_workOut.1 m_M_workOut.2.1 m_M_workOut.2.2.1 m_M_workOut.2.2.2 ∈ gtb := gt_sg sg_6 58 (by decide +kernel) (by decide +kernel)
theorem lb_M_workOut : gLB m_M_workOut 2 := ⟨w_1333, w_87, by decide +kernel, by decide +kernel, by decide +kernel⟩
theorem w_1330 : (Cond.methodLink "TwoAgreeModel" (188 : Nat) ({ cls := "TwoAgreeModel", name := "workOut", desc := "(II)I" } : MethodName)) ∈ gtb := gt_sg sg_6 55 (by decide +kernel) (by decide +kernel)
theorem w_1332 : (Cond.instanceMethod ({ cls := "TwoAgreeModel", name := "workOut", desc := "(II)I" } : MethodName)) ∈ gtb := gt_sg sg_6 57 (by decide +kernel) (by decide +kernel)
theorem w_36 : Cond.selects m_M_workOut.1.cls m_M_workOut.1 m_M_workOut.1 ∈ gtb := gt_in 36 (by decide +kernel) (by decide +kernel)
theorem lv_RX11_188 : gLV RX11 188 m_M_workOut 2 := ⟨lb_M_workOut, w_1330, w_1332, w_36⟩
theorem w_1145 : (Cond.fieldLink "TwoAgreeModel" (71 : Nat) "TwoAgreeModel" "textMany" "I") ∈ gtb := gt_sg sg_5 110 (by decide +kernel) (by decide +kernel)
theorem fl_RX11_71 : gFL RX11 71 11 10 (tyX11 10) false := ⟨RX11, TX11, 40, tyX11, rfl, uw_11, tyX11_ok, nmX11, by decide, w_1145, tyX11_ok 10 (by decide), rfl⟩
theorem gc_59_10 : gcf 59 11 10 = some none := by decide +kernel
abbrev m_M_saysBy : gM := (yX11_saysBy, cX11_saysBy, 5, some .int)
abbrev m_M_allSay : gM := (yX11_allSay, cX11_allSay, 4, none)
theorem ga_67 : gia 67 = some 10 := by decide +kernel
theorem w_1152 : (Cond.fieldLink "TwoAgreeModel" (31 : Nat) "TwoAgreeModel" "say" "[I") ∈ gtb := gt_sg sg_5 117 (by decide +kernel) (by decide +kernel)
theorem fl_RX11_31 : gFL RX11 31 11 17 (tyX11 17) true := ⟨RX11, TX11, 40, tyX11, rfl, uw_11, tyX11_ok, nmX11, by decide, w_1152, tyX11_ok 17 (by decide), rfl⟩
theorem gc_59_17 : gcf 59 11 17 = some (some 67) := by decide +kernel
theorem w_1380 : Cond.code m_M_saysBy.1 m_M_saysBy.2.1 m_M_saysBy.2.2.1 m_M_saysBy.2.2.2 ∈ gtb := gt_sg sg_6 105 (by decide +kernel) (by decide +kernel)
theorem lb_M_saysBy : gLB m_M_saysBy 3 := ⟨w_1380, w_87, by decide +kernel, by decide +kernel, by decide +kernel⟩
theorem w_1377 : (Cond.methodLink "TwoAgreeModel" (191 : Nat) ({ cls := "TwoAgreeModel", name := "saysBy", desc := "(III)I" } : MethodName)) ∈ gtb := gt_sg sg_6 102 (by decide +kernel) (by decide +kernel)
theorem w_1379 : (Cond.instanceMethod ({ cls := "TwoAgreeModel", name := "saysBy", desc := "(III)I" } : MethodName)) ∈ gtb := gt_sg sg_6 104 (by decide +kernel) (by decide +kernel)
theorem w_46 : Cond.selects m_M_saysBy.1.cls m_M_saysBy.1 m_M_saysBy.1 ∈ gtb := gt_in 46 (by decide +kernel) (by decide +kernel)
theorem lv_RX11_191 : gLV RX11 191 m_M_saysBy 3 := ⟨lb_M_saysBy, w_1377, w_1379, w_46⟩
abbrev m_M_allSayNow : gM := (yX11_allSayNow, cX11_allSayNow, 1, none)
theorem w_1392 : Cond.code m_M_allSay.1 m_M_allSay.2.1 m_M_allSay.2.2.1 m_M_allSay.2.2.2 ∈ gtb := gt_sg sg_6 117 (by decide +kernel) (by decide +kernel)
theorem lb_M_allSay : gLB m_M_allSay 2 := ⟨w_1392, w_87, by decide +kernel, by decide +kernel, by decide +kernel⟩
theorem w_1389 : (Cond.methodLink "TwoAgreeModel" (195 : Nat) ({ cls := "TwoAgreeModel", name := "allSay", desc := "(II)V" } : MethodName)) ∈ gtb := gt_sg sg_6 114 (by decide +kernel) (by decide +kernel)
theorem w_1391 : (Cond.instanceMethod ({ cls := "TwoAgreeModel", name := "allSay", desc := "(II)V" } : MethodName)) ∈ gtb := gt_sg sg_6 116 (by decide +kernel) (by decide +kernel)
theorem w_48 : Cond.selects m_M_allSay.1.cls m_M_allSay.1 m_M_allSay.1 ∈ gtb := gt_in 48 (by decide +kernel) (by decide +kernel)
theorem lv_RX11_195 : gLV RX11 195 m_M_allSay 2 := ⟨lb_M_allSay, w_1389, w_1391, w_48⟩
abbrev m_M_agree : gM := (yX11_agree, cX11_agree, 4, some .boolean)
abbrev m_M_agreedOn : gM := (yX11_agreedOn, cX11_agreedOn, 3, some .int)
abbrev m_M_happenedBy : gM := (yX11_happenedBy, cX11_happenedBy, 5, some .int)
theorem w_1407 : Cond.code m_M_isIn.1 m_M_isIn.2.1 m_M_isIn.2.2.1 m_M_isIn.2.2.2 ∈ gtb := gt_sg sg_6 132 (by decide +kernel) (by decide +kernel)
theorem lb_M_isIn : gLB m_M_isIn 2 := ⟨w_1407, w_87, by decide +kernel, by decide +kernel, by decide +kernel⟩
theorem w_1406 : (Cond.static ({ cls := "TwoAgreeModel", name := "isIn", desc := "(II)Z" } : MethodName)) ∈ gtb := gt_sg sg_6 131 (by decide +kernel) (by decide +kernel)
theorem w_1405 : (Cond.methodLink "TwoAgreeModel" (199 : Nat) ({ cls := "TwoAgreeModel", name := "isIn", desc := "(II)Z" } : MethodName)) ∈ gtb := gt_sg sg_6 130 (by decide +kernel) (by decide +kernel)
theorem ls_RX11_199 : gLS RX11 199 m_M_isIn 2 := ⟨lb_M_isIn, w_1405, w_1406⟩
theorem w_1396 : Cond.code m_M_agree.1 m_M_agree.2.1 m_M_agree.2.2.1 m_M_agree.2.2.2 ∈ gtb := gt_sg sg_6 121 (by decide +kernel) (by decide +kernel)
theorem lb_M_agree : gLB m_M_agree 2 := ⟨w_1396, w_87, by decide +kernel, by decide +kernel, by decide +kernel⟩
theorem w_1393 : (Cond.methodLink "TwoAgreeModel" (202 : Nat) ({ cls := "TwoAgreeModel", name := "agree", desc := "(II)Z" } : MethodName)) ∈ gtb := gt_sg sg_6 118 (by decide +kernel) (by decide +kernel)
theorem w_1395 : (Cond.instanceMethod ({ cls := "TwoAgreeModel", name := "agree", desc := "(II)Z" } : MethodName)) ∈ gtb := gt_sg sg_6 120 (by decide +kernel) (by decide +kernel)
theorem w_49 : Cond.selects m_M_agree.1.cls m_M_agree.1 m_M_agree.1 ∈ gtb := gt_in 49 (by decide +kernel) (by decide +kernel)
theorem lv_RX11_202 : gLV RX11 202 m_M_agree 2 := ⟨lb_M_agree, w_1393, w_1395, w_49⟩
theorem w_1411 : Cond.code m_M_agreedOn.1 m_M_agreedOn.2.1 m_M_agreedOn.2.2.1 m_M_agreedOn.2.2.2 ∈ gtb := gt_sg sg_6 136 (by decide +kernel) (by decide +kernel)
theorem lb_M_agreedOn : gLB m_M_agreedOn 2 := ⟨w_1411, w_87, by decide +kernel, by decide +kernel, by decide +kernel⟩
theorem w_1408 : (Cond.methodLink "TwoAgreeModel" (205 : Nat) ({ cls := "TwoAgreeModel", name := "agreedOn", desc := "(II)I" } : MethodName)) ∈ gtb := gt_sg sg_6 133 (by decide +kernel) (by decide +kernel)
theorem w_1410 : (Cond.instanceMethod ({ cls := "TwoAgreeModel", name := "agreedOn", desc := "(II)I" } : MethodName)) ∈ gtb := gt_sg sg_6 135 (by decide +kernel) (by decide +kernel)
theorem w_52 : Cond.selects m_M_agreedOn.1.cls m_M_agreedOn.1 m_M_agreedOn.1 ∈ gtb := gt_in 52 (by decide +kernel) (by decide +kernel)
theorem lv_RX11_205 : gLV RX11 205 m_M_agreedOn 2 := ⟨lb_M_agreedOn, w_1408, w_1410, w_52⟩
abbrev m_M_everybody : gM := (yX11_everybody, cX11_everybody, 1, some .int)
abbrev m_M_says : gM := (yX11_says, cX11_says, 2, some .int)
abbrev m_M_all : gM := (yX11_all, cX11_all, 5, some .int)
theorem w_1388 : Cond.code m_M_allSayNow.1 m_M_allSayNow.2.1 m_M_allSayNow.2.2.1 m_M_allSayNow.2.2.2 ∈ gtb := gt_sg sg_6 113 (by decide +kernel) (by decide +kernel)
theorem lb_M_allSayNow : gLB m_M_allSayNow 0 := ⟨w_1388, w_87, by decide +kernel, by decide +kernel, by decide +kernel⟩
theorem w_1385 : (Cond.methodLink "TwoAgreeModel" (208 : Nat) ({ cls := "TwoAgreeModel", name := "allSayNow", desc := "()V" } : MethodName)) ∈ gtb := gt_sg sg_6 110 (by decide +kernel) (by decide +kernel)
theorem w_1387 : (Cond.instanceMethod ({ cls := "TwoAgreeModel", name := "allSayNow", desc := "()V" } : MethodName)) ∈ gtb := gt_sg sg_6 112 (by decide +kernel) (by decide +kernel)
theorem w_47 : Cond.selects m_M_allSayNow.1.cls m_M_allSayNow.1 m_M_allSayNow.1 ∈ gtb := gt_in 47 (by decide +kernel) (by decide +kernel)
theorem lv_RX11_208 : gLV RX11 208 m_M_allSayNow 0 := ⟨lb_M_allSayNow, w_1385, w_1387, w_47⟩
theorem w_1400 : Cond.code m_M_everybody.1 m_M_everybody.2.1 m_M_everybody.2.2.1 m_M_everybody.2.2.2 ∈ gtb := gt_sg sg_6 125 (by decide +kernel) (by decide +kernel)
theorem lb_M_everybody : gLB m_M_everybody 0 := ⟨w_1400, w_87, by decide +kernel, by decide +kernel, by decide +kernel⟩
theorem w_1397 : (Cond.methodLink "TwoAgreeModel" (211 : Nat) ({ cls := "TwoAgreeModel", name := "everybody", desc := "()I" } : MethodName)) ∈ gtb := gt_sg sg_6 122 (by decide +kernel) (by decide +kernel)
theorem w_1399 : (Cond.instanceMethod ({ cls := "TwoAgreeModel", name := "everybody", desc := "()I" } : MethodName)) ∈ gtb := gt_sg sg_6 124 (by decide +kernel) (by decide +kernel)
theorem w_50 : Cond.selects m_M_everybody.1.cls m_M_everybody.1 m_M_everybody.1 ∈ gtb := gt_in 50 (by decide +kernel) (by decide +kernel)
theorem lv_RX11_211 : gLV RX11 211 m_M_everybody 0 := ⟨lb_M_everybody, w_1397, w_1399, w_50⟩
theorem w_1404 : Cond.code m_M_happenedBy.1 m_M_happenedBy.2.1 m_M_happenedBy.2.2.1 m_M_happenedBy.2.2.2 ∈ gtb := gt_sg sg_6 129 (by decide +kernel) (by decide +kernel)
theorem lb_M_happenedBy : gLB m_M_happenedBy 1 := ⟨w_1404, w_87, by decide +kernel, by decide +kernel, by decide +kernel⟩
theorem w_1401 : (Cond.methodLink "TwoAgreeModel" (214 : Nat) ({ cls := "TwoAgreeModel", name := "happenedBy", desc := "(I)I" } : MethodName)) ∈ gtb := gt_sg sg_6 126 (by decide +kernel) (by decide +kernel)
theorem w_1403 : (Cond.instanceMethod ({ cls := "TwoAgreeModel", name := "happenedBy", desc := "(I)I" } : MethodName)) ∈ gtb := gt_sg sg_6 128 (by decide +kernel) (by decide +kernel)
theorem w_51 : Cond.selects m_M_happenedBy.1.cls m_M_happenedBy.1 m_M_happenedBy.1 ∈ gtb := gt_in 51 (by decide +kernel) (by decide +kernel)
theorem lv_RX11_214 : gLV RX11 214 m_M_happenedBy 1 := ⟨lb_M_happenedBy, w_1401, w_1403, w_51⟩
abbrev m_M_saying : gM := (yX11_saying, cX11_saying, 4, some .int)
abbrev m_M_bytesIs : gM := (yX11_bytesIs, cX11_bytesIs, 2, some .int)
abbrev m_M_claimMany : gM := (yX11_claimMany, cX11_claimMany, 3, some .int)
abbrev m_M_cameBy : gM := (yX11_cameBy, cX11_cameBy, 5, some .int)
theorem w_1432 : Cond.code m_M_claimMany.1 m_M_claimMany.2.1 m_M_claimMany.2.2.1 m_M_claimMany.2.2.2 ∈ gtb := gt_sg sg_6 157 (by decide +kernel) (by decide +kernel)
theorem lb_M_claimMany : gLB m_M_claimMany 1 := ⟨w_1432, w_87, by decide +kernel, by decide +kernel, by decide +kernel⟩
theorem w_1429 : (Cond.methodLink "TwoAgreeModel" (217 : Nat) ({ cls := "TwoAgreeModel", name := "claimMany", desc := "(I)I" } : MethodName)) ∈ gtb := gt_sg sg_6 154 (by decide +kernel) (by decide +kernel)
theorem w_1431 : (Cond.instanceMethod ({ cls := "TwoAgreeModel", name := "claimMany", desc := "(I)I" } : MethodName)) ∈ gtb := gt_sg sg_6 156 (by decide +kernel) (by decide +kernel)
theorem w_55 : Cond.selects m_M_claimMany.1.cls m_M_claimMany.1 m_M_claimMany.1 ∈ gtb := gt_in 55 (by decide +kernel) (by decide +kernel)
theorem lv_RX11_217 : gLV RX11 217 m_M_claimMany 1 := ⟨lb_M_claimMany, w_1429, w_1431, w_55⟩
abbrev m_M_claims : gM := (yX11_claims, cX11_claims, 5, some .int)
theorem w_1423 : Cond.code m_M_bytesIs.1 m_M_bytesIs.2.1 m_M_bytesIs.2.2.1 m_M_bytesIs.2.2.2 ∈ gtb := gt_sg sg_6 148 (by decide +kernel) (by decide +kernel)
theorem lb_M_bytesIs : gLB m_M_bytesIs 1 := ⟨w_1423, w_87, by decide +kernel, by decide +kernel, by decide +kernel⟩
theorem w_1420 : (Cond.methodLink "TwoAgreeModel" (220 : Nat) ({ cls := "TwoAgreeModel", name := "bytesIs", desc := "(I)I" } : MethodName)) ∈ gtb := gt_sg sg_6 145 (by decide +kernel) (by decide +kernel)
theorem w_1422 : (Cond.instanceMethod ({ cls := "TwoAgreeModel", name := "bytesIs", desc := "(I)I" } : MethodName)) ∈ gtb := gt_sg sg_6 147 (by decide +kernel) (by decide +kernel)
theorem w_53 : Cond.selects m_M_bytesIs.1.cls m_M_bytesIs.1 m_M_bytesIs.1 ∈ gtb := gt_in 53 (by decide +kernel) (by decide +kernel)
theorem lv_RX11_220 : gLV RX11 220 m_M_bytesIs 1 := ⟨lb_M_bytesIs, w_1420, w_1422, w_53⟩
theorem w_1424 : (Cond.constantLong "TwoAgreeModel" (223 : Nat) (40 : Int64)) ∈ gtb := gt_sg sg_6 149 (by decide +kernel) (by decide +kernel)
theorem w_1428 : Cond.code m_M_cameBy.1 m_M_cameBy.2.1 m_M_cameBy.2.2.1 m_M_cameBy.2.2.2 ∈ gtb := gt_sg sg_6 153 (by decide +kernel) (by decide +kernel)
theorem lb_M_cameBy : gLB m_M_cameBy 2 := ⟨w_1428, w_87, by decide +kernel, by decide +kernel, by decide +kernel⟩
theorem w_1425 : (Cond.methodLink "TwoAgreeModel" (225 : Nat) ({ cls := "TwoAgreeModel", name := "cameBy", desc := "(II)I" } : MethodName)) ∈ gtb := gt_sg sg_6 150 (by decide +kernel) (by decide +kernel)
theorem w_1427 : (Cond.instanceMethod ({ cls := "TwoAgreeModel", name := "cameBy", desc := "(II)I" } : MethodName)) ∈ gtb := gt_sg sg_6 152 (by decide +kernel) (by decide +kernel)
theorem w_54 : Cond.selects m_M_cameBy.1.cls m_M_cameBy.1 m_M_cameBy.1 ∈ gtb := gt_in 54 (by decide +kernel) (by decide +kernel)
theorem lv_RX11_225 : gLV RX11 225 m_M_cameBy 2 := ⟨lb_M_cameBy, w_1425, w_1427, w_54⟩
theorem w_1435 : Cond.code m_M_bitsOf.1 m_M_bitsOf.2.1 m_M_bitsOf.2.2.1 m_M_bitsOf.2.2.2 ∈ gtb := gt_sg sg_6 160 (by decide +kernel) (by decide +kernel)
theorem lb_M_bitsOf : gLB m_M_bitsOf 1 := ⟨w_1435, w_87, by decide +kernel, by decide +kernel, by decide +kernel⟩
theorem w_1434 : (Cond.static ({ cls := "TwoAgreeModel", name := "bitsOf", desc := "(I)I" } : MethodName)) ∈ gtb := gt_sg sg_6 159 (by decide +kernel) (by decide +kernel)
theorem w_1433 : (Cond.methodLink "TwoAgreeModel" (228 : Nat) ({ cls := "TwoAgreeModel", name := "bitsOf", desc := "(I)I" } : MethodName)) ∈ gtb := gt_sg sg_6 158 (by decide +kernel) (by decide +kernel)
theorem ls_RX11_228 : gLS RX11 228 m_M_bitsOf 1 := ⟨lb_M_bitsOf, w_1433, w_1434⟩
abbrev m_M_happens : gM := (yX11_happens, cX11_happens, 4, some .int)
abbrev m_M_costOf : gM := (yX11_costOf, cX11_costOf, 3, some .int)
abbrev m_M_pay : gM := (yX11_pay, cX11_pay, 7, some .int)
theorem w_1444 : (Cond.constant "TwoAgreeModel" (231 : Nat) (1000000 : Int32)) ∈ gtb := gt_sg sg_6 169 (by decide +kernel) (by decide +kernel)
theorem w_1448 : Cond.code m_M_costOf.1 m_M_costOf.2.1 m_M_costOf.2.2.1 m_M_costOf.2.2.2 ∈ gtb := gt_sg sg_6 173 (by decide +kernel) (by decide +kernel)
theorem lb_M_costOf : gLB m_M_costOf 2 := ⟨w_1448, w_87, by decide +kernel, by decide +kernel, by decide +kernel⟩
theorem w_1445 : (Cond.methodLink "TwoAgreeModel" (232 : Nat) ({ cls := "TwoAgreeModel", name := "costOf", desc := "(II)I" } : MethodName)) ∈ gtb := gt_sg sg_6 170 (by decide +kernel) (by decide +kernel)
theorem w_1447 : (Cond.instanceMethod ({ cls := "TwoAgreeModel", name := "costOf", desc := "(II)I" } : MethodName)) ∈ gtb := gt_sg sg_6 172 (by decide +kernel) (by decide +kernel)
theorem w_56 : Cond.selects m_M_costOf.1.cls m_M_costOf.1 m_M_costOf.1 ∈ gtb := gt_in 56 (by decide +kernel) (by decide +kernel)
theorem lv_RX11_232 : gLV RX11 232 m_M_costOf 2 := ⟨lb_M_costOf, w_1445, w_1447, w_56⟩
abbrev m_M_payBoth : gM := (yX11_payBoth, cX11_payBoth, 14, some .int)
abbrev m_M_pairsOf : gM := (yX11_pairsOf, cX11_pairsOf, 6, some .int)
theorem ga_68 : gia 68 = some 1024 := by decide +kernel
theorem w_1153 : (Cond.fieldLink "TwoAgreeModel" (34 : Nat) "TwoAgreeModel" "mostPairs" "[I") ∈ gtb := gt_sg sg_5 118 (by decide +kernel) (by decide +kernel)
theorem fl_RX11_34 : gFL RX11 34 11 18 (tyX11 18) true := ⟨RX11, TX11, 40, tyX11, rfl, uw_11, tyX11_ok, nmX11, by decide, w_1153, tyX11_ok 18 (by decide), rfl⟩
theorem gc_59_18 : gcf 59 11 18 = some (some 68) := by decide +kernel
abbrev m_M_droughtOf : gM := (yX11_droughtOf, cX11_droughtOf, 7, some .int)
theorem ga_69 : gia 69 = some 8 := by decide +kernel
theorem w_1154 : (Cond.fieldLink "TwoAgreeModel" (37 : Nat) "TwoAgreeModel" "heap" "[I") ∈ gtb := gt_sg sg_5 119 (by decide +kernel) (by decide +kernel)
theorem fl_RX11_37 : gFL RX11 37 11 19 (tyX11 19) true := ⟨RX11, TX11, 40, tyX11, rfl, uw_11, tyX11_ok, nmX11, by decide, w_1154, tyX11_ok 19 (by decide), rfl⟩
theorem gc_59_19 : gcf 59 11 19 = some (some 69) := by decide +kernel
abbrev m_M_aloneOf : gM := (yX11_aloneOf, cX11_aloneOf, 3, some .int)
theorem ga_70 : gia 70 = some 6 := by decide +kernel
theorem w_1155 : (Cond.fieldLink "TwoAgreeModel" (40 : Nat) "TwoAgreeModel" "pairsOn" "[I") ∈ gtb := gt_sg sg_5 120 (by decide +kernel) (by decide +kernel)
theorem fl_RX11_40 : gFL RX11 40 11 20 (tyX11 20) true := ⟨RX11, TX11, 40, tyX11, rfl, uw_11, tyX11_ok, nmX11, by decide, w_1155, tyX11_ok 20 (by decide), rfl⟩
theorem gc_59_20 : gcf 59 11 20 = some (some 70) := by decide +kernel
abbrev m_M_pairs : gM := (yX11_pairs, cX11_pairs, 2, some .int)
theorem w_1460 : Cond.code m_M_pairsOf.1 m_M_pairsOf.2.1 m_M_pairsOf.2.2.1 m_M_pairsOf.2.2.2 ∈ gtb := gt_sg sg_6 185 (by decide +kernel) (by decide +kernel)
theorem lb_M_pairsOf : gLB m_M_pairsOf 0 := ⟨w_1460, w_87, by decide +kernel, by decide +kernel, by decide +kernel⟩
theorem w_1457 : (Cond.methodLink "TwoAgreeModel" (235 : Nat) ({ cls := "TwoAgreeModel", name := "pairsOf", desc := "()I" } : MethodName)) ∈ gtb := gt_sg sg_6 182 (by decide +kernel) (by decide +kernel)
theorem w_1459 : (Cond.instanceMethod ({ cls := "TwoAgreeModel", name := "pairsOf", desc := "()I" } : MethodName)) ∈ gtb := gt_sg sg_6 184 (by decide +kernel) (by decide +kernel)
theorem w_57 : Cond.selects m_M_pairsOf.1.cls m_M_pairsOf.1 m_M_pairsOf.1 ∈ gtb := gt_in 57 (by decide +kernel) (by decide +kernel)
theorem lv_RX11_235 : gLV RX11 235 m_M_pairsOf 0 := ⟨lb_M_pairsOf, w_1457, w_1459, w_57⟩
theorem w_1464 : Cond.code m_M_droughtOf.1 m_M_droughtOf.2.1 m_M_droughtOf.2.2.1 m_M_droughtOf.2.2.2 ∈ gtb := gt_sg sg_6 189 (by decide +kernel) (by decide +kernel)
theorem lb_M_droughtOf : gLB m_M_droughtOf 0 := ⟨w_1464, w_87, by decide +kernel, by decide +kernel, by decide +kernel⟩
theorem w_1461 : (Cond.methodLink "TwoAgreeModel" (238 : Nat) ({ cls := "TwoAgreeModel", name := "droughtOf", desc := "()I" } : MethodName)) ∈ gtb := gt_sg sg_6 186 (by decide +kernel) (by decide +kernel)
theorem w_1463 : (Cond.instanceMethod ({ cls := "TwoAgreeModel", name := "droughtOf", desc := "()I" } : MethodName)) ∈ gtb := gt_sg sg_6 188 (by decide +kernel) (by decide +kernel)
theorem w_58 : Cond.selects m_M_droughtOf.1.cls m_M_droughtOf.1 m_M_droughtOf.1 ∈ gtb := gt_in 58 (by decide +kernel) (by decide +kernel)
theorem lv_RX11_238 : gLV RX11 238 m_M_droughtOf 0 := ⟨lb_M_droughtOf, w_1461, w_1463, w_58⟩
theorem w_1468 : Cond.code m_M_aloneOf.1 m_M_aloneOf.2.1 m_M_aloneOf.2.2.1 m_M_aloneOf.2.2.2 ∈ gtb := gt_sg sg_6 193 (by decide +kernel) (by decide +kernel)
theorem lb_M_aloneOf : gLB m_M_aloneOf 0 := ⟨w_1468, w_87, by decide +kernel, by decide +kernel, by decide +kernel⟩
theorem w_1465 : (Cond.methodLink "TwoAgreeModel" (241 : Nat) ({ cls := "TwoAgreeModel", name := "aloneOf", desc := "()I" } : MethodName)) ∈ gtb := gt_sg sg_6 190 (by decide +kernel) (by decide +kernel)
theorem w_1467 : (Cond.instanceMethod ({ cls := "TwoAgreeModel", name := "aloneOf", desc := "()I" } : MethodName)) ∈ gtb := gt_sg sg_6 192 (by decide +kernel) (by decide +kernel)
theorem w_59 : Cond.selects m_M_aloneOf.1.cls m_M_aloneOf.1 m_M_aloneOf.1 ∈ gtb := gt_in 59 (by decide +kernel) (by decide +kernel)
theorem lv_RX11_241 : gLV RX11 241 m_M_aloneOf 0 := ⟨lb_M_aloneOf, w_1465, w_1467, w_59⟩
abbrev m_M_strangers : gM := (yX11_strangers, cX11_strangers, 3, some .int)
abbrev m_M_saidMany : gM := (yX11_saidMany, cX11_saidMany, 3, some .int)
abbrev m_M_weightOf : gM := (yX11_weightOf, cX11_weightOf, 7, some .long)
theorem w_1485 : Cond.code m_M_saidMany.1 m_M_saidMany.2.1 m_M_saidMany.2.2.1 m_M_saidMany.2.2.2 ∈ gtb := gt_sg sg_6 210 (by decide +kernel) (by decide +kernel)
theorem lb_M_saidMany : gLB m_M_saidMany 1 := ⟨w_1485, w_87, by decide +kernel, by decide +kernel, by decide +kernel⟩
theorem w_1482 : (Cond.methodLink "TwoAgreeModel" (244 : Nat) ({ cls := "TwoAgreeModel", name := "saidMany", desc := "(I)I" } : MethodName)) ∈ gtb := gt_sg sg_6 207 (by decide +kernel) (by decide +kernel)
theorem w_1484 : (Cond.instanceMethod ({ cls := "TwoAgreeModel", name := "saidMany", desc := "(I)I" } : MethodName)) ∈ gtb := gt_sg sg_6 209 (by decide +kernel) (by decide +kernel)
theorem w_61 : Cond.selects m_M_saidMany.1.cls m_M_saidMany.1 m_M_saidMany.1 ∈ gtb := gt_in 61 (by decide +kernel) (by decide +kernel)
theorem lv_RX11_244 : gLV RX11 244 m_M_saidMany 1 := ⟨lb_M_saidMany, w_1482, w_1484, w_61⟩
abbrev m_M_likely : gM := (yX11_likely, cX11_likely, 14, some .long)
theorem w_1477 : (Cond.constantLong "TwoAgreeModel" (249 : Nat) (-9223372036854775808 : Int64)) ∈ gtb := gt_sg sg_6 202 (by decide +kernel) (by decide +kernel)
theorem w_1481 : Cond.code m_M_weightOf.1 m_M_weightOf.2.1 m_M_weightOf.2.2.1 m_M_weightOf.2.2.2 ∈ gtb := gt_sg sg_6 206 (by decide +kernel) (by decide +kernel)
theorem lb_M_weightOf : gLB m_M_weightOf 2 := ⟨w_1481, w_87, by decide +kernel, by decide +kernel, by decide +kernel⟩
theorem w_1478 : (Cond.methodLink "TwoAgreeModel" (251 : Nat) ({ cls := "TwoAgreeModel", name := "weightOf", desc := "(II)J" } : MethodName)) ∈ gtb := gt_sg sg_6 203 (by decide +kernel) (by decide +kernel)
theorem w_1480 : (Cond.instanceMethod ({ cls := "TwoAgreeModel", name := "weightOf", desc := "(II)J" } : MethodName)) ∈ gtb := gt_sg sg_6 205 (by decide +kernel) (by decide +kernel)
theorem w_60 : Cond.selects m_M_weightOf.1.cls m_M_weightOf.1 m_M_weightOf.1 ∈ gtb := gt_in 60 (by decide +kernel) (by decide +kernel)
theorem lv_RX11_251 : gLV RX11 251 m_M_weightOf 2 := ⟨lb_M_weightOf, w_1478, w_1480, w_60⟩
abbrev m_M_liars : gM := (yX11_liars, cX11_liars, 8, some .int)
abbrev m_M_dayMany : gM := (yX11_dayMany, cX11_dayMany, 3, some .int)
abbrev m_M_dayOf : gM := (yX11_dayOf, cX11_dayOf, 1, some .int)
abbrev m_M_happenedOn : gM := (yX11_happenedOn, cX11_happenedOn, 3, some .int)
theorem w_1504 : Cond.code m_M_dayOf.1 m_M_dayOf.2.1 m_M_dayOf.2.2.1 m_M_dayOf.2.2.2 ∈ gtb := gt_sg sg_6 229 (by decide +kernel) (by decide +kernel)
theorem lb_M_dayOf : gLB m_M_dayOf 1 := ⟨w_1504, w_87, by decide +kernel, by decide +kernel, by decide +kernel⟩
theorem w_1503 : (Cond.static ({ cls := "TwoAgreeModel", name := "dayOf", desc := "(I)I" } : MethodName)) ∈ gtb := gt_sg sg_6 228 (by decide +kernel) (by decide +kernel)
theorem w_1502 : (Cond.methodLink "TwoAgreeModel" (255 : Nat) ({ cls := "TwoAgreeModel", name := "dayOf", desc := "(I)I" } : MethodName)) ∈ gtb := gt_sg sg_6 227 (by decide +kernel) (by decide +kernel)
theorem ls_RX11_255 : gLS RX11 255 m_M_dayOf 1 := ⟨lb_M_dayOf, w_1502, w_1503⟩
abbrev m_M_days : gM := (yX11_days, cX11_days, 9, some .int)
theorem w_1497 : Cond.code m_M_dayMany.1 m_M_dayMany.2.1 m_M_dayMany.2.2.1 m_M_dayMany.2.2.2 ∈ gtb := gt_sg sg_6 222 (by decide +kernel) (by decide +kernel)
theorem lb_M_dayMany : gLB m_M_dayMany 1 := ⟨w_1497, w_87, by decide +kernel, by decide +kernel, by decide +kernel⟩
theorem w_1494 : (Cond.methodLink "TwoAgreeModel" (258 : Nat) ({ cls := "TwoAgreeModel", name := "dayMany", desc := "(I)I" } : MethodName)) ∈ gtb := gt_sg sg_6 219 (by decide +kernel) (by decide +kernel)
theorem w_1496 : (Cond.instanceMethod ({ cls := "TwoAgreeModel", name := "dayMany", desc := "(I)I" } : MethodName)) ∈ gtb := gt_sg sg_6 221 (by decide +kernel) (by decide +kernel)
theorem w_62 : Cond.selects m_M_dayMany.1.cls m_M_dayMany.1 m_M_dayMany.1 ∈ gtb := gt_in 62 (by decide +kernel) (by decide +kernel)
theorem lv_RX11_258 : gLV RX11 258 m_M_dayMany 1 := ⟨lb_M_dayMany, w_1494, w_1496, w_62⟩
theorem w_1501 : Cond.code m_M_happenedOn.1 m_M_happenedOn.2.1 m_M_happenedOn.2.2.1 m_M_happenedOn.2.2.2 ∈ gtb := gt_sg sg_6 226 (by decide +kernel) (by decide +kernel)
theorem lb_M_happenedOn : gLB m_M_happenedOn 2 := ⟨w_1501, w_87, by decide +kernel, by decide +kernel, by decide +kernel⟩
theorem w_1498 : (Cond.methodLink "TwoAgreeModel" (261 : Nat) ({ cls := "TwoAgreeModel", name := "happenedOn", desc := "(II)I" } : MethodName)) ∈ gtb := gt_sg sg_6 223 (by decide +kernel) (by decide +kernel)
theorem w_1500 : (Cond.instanceMethod ({ cls := "TwoAgreeModel", name := "happenedOn", desc := "(II)I" } : MethodName)) ∈ gtb := gt_sg sg_6 225 (by decide +kernel) (by decide +kernel)
theorem w_63 : Cond.selects m_M_happenedOn.1.cls m_M_happenedOn.1 m_M_happenedOn.1 ∈ gtb := gt_in 63 (by decide +kernel) (by decide +kernel)
theorem lv_RX11_261 : gLV RX11 261 m_M_happenedOn 2 := ⟨lb_M_happenedOn, w_1498, w_1500, w_63⟩
abbrev m_M_rowsAre : gM := (yX11_rowsAre, cX11_rowsAre, 2, some .int)
abbrev m_M_firstFalse : gM := (yX11_firstFalse, cX11_firstFalse, 3, some .int)
abbrev m_M_judge : gM := (yX11_judge, cX11_judge, 2, some .int)
theorem w_1512 : Cond.code m_M_rowsAre.1 m_M_rowsAre.2.1 m_M_rowsAre.2.2.1 m_M_rowsAre.2.2.2 ∈ gtb := gt_sg sg_6 237 (by decide +kernel) (by decide +kernel)
theorem lb_M_rowsAre : gLB m_M_rowsAre 1 := ⟨w_1512, w_87, by decide +kernel, by decide +kernel, by decide +kernel⟩
theorem w_1509 : (Cond.methodLink "TwoAgreeModel" (264 : Nat) ({ cls := "TwoAgreeModel", name := "rowsAre", desc := "(I)I" } : MethodName)) ∈ gtb := gt_sg sg_6 234 (by decide +kernel) (by decide +kernel)
theorem w_1511 : (Cond.instanceMethod ({ cls := "TwoAgreeModel", name := "rowsAre", desc := "(I)I" } : MethodName)) ∈ gtb := gt_sg sg_6 236 (by decide +kernel) (by decide +kernel)
theorem w_64 : Cond.selects m_M_rowsAre.1.cls m_M_rowsAre.1 m_M_rowsAre.1 ∈ gtb := gt_in 64 (by decide +kernel) (by decide +kernel)
theorem lv_RX11_264 : gLV RX11 264 m_M_rowsAre 1 := ⟨lb_M_rowsAre, w_1509, w_1511, w_64⟩
theorem w_1516 : Cond.code m_M_firstFalse.1 m_M_firstFalse.2.1 m_M_firstFalse.2.2.1 m_M_firstFalse.2.2.2 ∈ gtb := gt_sg sg_7 1 (by decide +kernel) (by decide +kernel)
theorem lb_M_firstFalse : gLB m_M_firstFalse 1 := ⟨w_1516, w_87, by decide +kernel, by decide +kernel, by decide +kernel⟩
theorem w_1513 : (Cond.methodLink "TwoAgreeModel" (267 : Nat) ({ cls := "TwoAgreeModel", name := "firstFalse", desc := "(I)I" } : MethodName)) ∈ gtb := gt_sg sg_6 238 (by decide +kernel) (by decide +kernel)
theorem w_1515 : (Cond.instanceMethod ({ cls := "TwoAgreeModel", name := "firstFalse", desc := "(I)I" } : MethodName)) ∈ gtb := gt_sg sg_7 0 (by decide +kernel) (by decide +kernel)
theorem w_65 : Cond.selects m_M_firstFalse.1.cls m_M_firstFalse.1 m_M_firstFalse.1 ∈ gtb := gt_in 65 (by decide +kernel) (by decide +kernel)
theorem lv_RX11_267 : gLV RX11 267 m_M_firstFalse 1 := ⟨lb_M_firstFalse, w_1513, w_1515, w_65⟩
abbrev m_M_fits : gM := (yX11_fits, cX11_fits, 10, some .int)
abbrev m_M_playsFrom : gM := (yX11_playsFrom, cX11_playsFrom, 9, some .int)
theorem w_1528 : Cond.code m_M_playsFrom.1 m_M_playsFrom.2.1 m_M_playsFrom.2.2.1 m_M_playsFrom.2.2.2 ∈ gtb := gt_sg sg_7 13 (by decide +kernel) (by decide +kernel)
theorem lb_M_playsFrom : gLB m_M_playsFrom 4 := ⟨w_1528, w_87, by decide +kernel, by decide +kernel, by decide +kernel⟩
theorem w_1525 : (Cond.methodLink "TwoAgreeModel" (270 : Nat) ({ cls := "TwoAgreeModel", name := "playsFrom", desc := "(IIII)I" } : MethodName)) ∈ gtb := gt_sg sg_7 10 (by decide +kernel) (by decide +kernel)
theorem w_1527 : (Cond.instanceMethod ({ cls := "TwoAgreeModel", name := "playsFrom", desc := "(IIII)I" } : MethodName)) ∈ gtb := gt_sg sg_7 12 (by decide +kernel) (by decide +kernel)
theorem w_66 : Cond.selects m_M_playsFrom.1.cls m_M_playsFrom.1 m_M_playsFrom.1 ∈ gtb := gt_in 66 (by decide +kernel) (by decide +kernel)
theorem lv_RX11_270 : gLV RX11 270 m_M_playsFrom 4 := ⟨lb_M_playsFrom, w_1525, w_1527, w_66⟩
abbrev m_M_byTurns : gM := (yX11_byTurns, cX11_byTurns, 8, some .int)
abbrev m_M_drawn : gM := (yX11_drawn, cX11_drawn, 9, some .int)
theorem w_1533 : (Cond.constantLong "TwoAgreeModel" (274 : Nat) (30 : Int64)) ∈ gtb := gt_sg sg_7 18 (by decide +kernel) (by decide +kernel)
theorem w_1534 : (Cond.constant "TwoAgreeModel" (276 : Nat) (1103515245 : Int32)) ∈ gtb := gt_sg sg_7 19 (by decide +kernel) (by decide +kernel)
abbrev m_M_claim : gM := (yX11_claim, cX11_claim, 4, some .int)
theorem ga_71 : gia 71 = some 5 := by decide +kernel
theorem w_1156 : (Cond.fieldLink "TwoAgreeModel" (277 : Nat) "TwoAgreeModel" "there" "I") ∈ gtb := gt_sg sg_5 121 (by decide +kernel) (by decide +kernel)
theorem fl_RX11_277 : gFL RX11 277 11 21 (tyX11 21) false := ⟨RX11, TX11, 40, tyX11, rfl, uw_11, tyX11_ok, nmX11, by decide, w_1156, tyX11_ok 21 (by decide), rfl⟩
theorem gc_59_21 : gcf 59 11 21 = some none := by decide +kernel
theorem w_1157 : (Cond.fieldLink "TwoAgreeModel" (280 : Nat) "TwoAgreeModel" "happenedNow" "I") ∈ gtb := gt_sg sg_5 122 (by decide +kernel) (by decide +kernel)
theorem fl_RX11_280 : gFL RX11 280 11 22 (tyX11 22) false := ⟨RX11, TX11, 40, tyX11, rfl, uw_11, tyX11_ok, nmX11, by decide, w_1157, tyX11_ok 22 (by decide), rfl⟩
theorem gc_59_22 : gcf 59 11 22 = some none := by decide +kernel
theorem w_1158 : (Cond.fieldLink "TwoAgreeModel" (43 : Nat) "TwoAgreeModel" "ledNow" "[I") ∈ gtb := gt_sg sg_5 123 (by decide +kernel) (by decide +kernel)
theorem fl_RX11_43 : gFL RX11 43 11 23 (tyX11 23) true := ⟨RX11, TX11, 40, tyX11, rfl, uw_11, tyX11_ok, nmX11, by decide, w_1158, tyX11_ok 23 (by decide), rfl⟩
theorem gc_59_23 : gcf 59 11 23 = some (some 71) := by decide +kernel
abbrev m_M_ends : gM := (yX11_ends, cX11_ends, 1, some .int)
abbrev m_M_marry : gM := (yX11_marry, cX11_marry, 6, some .int)
abbrev m_M_paid : gM := (yX11_paid, cX11_paid, 4, some .int)
abbrev m_M_led : gM := (yX11_led, cX11_led, 2, some .int)
abbrev m_M_image : gM := (yX11_image, cX11_image, 2, some .int)
theorem ga_72 : gia 72 = some 43 := by decide +kernel
theorem ga_73 : gia 73 = some 5 := by decide +kernel
theorem w_1159 : (Cond.fieldLink "TwoAgreeModel" (283 : Nat) "TwoAgreeModel" "isKept" "Z") ∈ gtb := gt_sg sg_5 124 (by decide +kernel) (by decide +kernel)
theorem fl_RX11_283 : gFL RX11 283 11 24 (tyX11 24) false := ⟨RX11, TX11, 40, tyX11, rfl, uw_11, tyX11_ok, nmX11, by decide, w_1159, tyX11_ok 24 (by decide), rfl⟩
theorem gc_59_24 : gcf 59 11 24 = some none := by decide +kernel
theorem w_1160 : (Cond.fieldLink "TwoAgreeModel" (287 : Nat) "TwoAgreeModel" "imagePeople" "I") ∈ gtb := gt_sg sg_5 125 (by decide +kernel) (by decide +kernel)
theorem fl_RX11_287 : gFL RX11 287 11 25 (tyX11 25) false := ⟨RX11, TX11, 40, tyX11, rfl, uw_11, tyX11_ok, nmX11, by decide, w_1160, tyX11_ok 25 (by decide), rfl⟩
theorem gc_59_25 : gcf 59 11 25 = some none := by decide +kernel
theorem w_1161 : (Cond.fieldLink "TwoAgreeModel" (290 : Nat) "TwoAgreeModel" "imageThere" "I") ∈ gtb := gt_sg sg_5 126 (by decide +kernel) (by decide +kernel)
theorem fl_RX11_290 : gFL RX11 290 11 26 (tyX11 26) false := ⟨RX11, TX11, 40, tyX11, rfl, uw_11, tyX11_ok, nmX11, by decide, w_1161, tyX11_ok 26 (by decide), rfl⟩
theorem gc_59_26 : gcf 59 11 26 = some none := by decide +kernel
theorem w_1162 : (Cond.fieldLink "TwoAgreeModel" (293 : Nat) "TwoAgreeModel" "imageHappened" "I") ∈ gtb := gt_sg sg_5 127 (by decide +kernel) (by decide +kernel)
theorem fl_RX11_293 : gFL RX11 293 11 27 (tyX11 27) false := ⟨RX11, TX11, 40, tyX11, rfl, uw_11, tyX11_ok, nmX11, by decide, w_1162, tyX11_ok 27 (by decide), rfl⟩
theorem gc_59_27 : gcf 59 11 27 = some none := by decide +kernel
theorem w_1164 : (Cond.fieldLink "TwoAgreeModel" (49 : Nat) "TwoAgreeModel" "imageLed" "[I") ∈ gtb := gt_sg sg_5 129 (by decide +kernel) (by decide +kernel)
theorem fl_RX11_49 : gFL RX11 49 11 29 (tyX11 29) true := ⟨RX11, TX11, 40, tyX11, rfl, uw_11, tyX11_ok, nmX11, by decide, w_1164, tyX11_ok 29 (by decide), rfl⟩
theorem gc_59_29 : gcf 59 11 29 = some (some 73) := by decide +kernel
theorem w_1163 : (Cond.fieldLink "TwoAgreeModel" (46 : Nat) "TwoAgreeModel" "imageMay" "[I") ∈ gtb := gt_sg sg_5 128 (by decide +kernel) (by decide +kernel)
theorem fl_RX11_46 : gFL RX11 46 11 28 (tyX11 28) true := ⟨RX11, TX11, 40, tyX11, rfl, uw_11, tyX11_ok, nmX11, by decide, w_1163, tyX11_ok 28 (by decide), rfl⟩
theorem gc_59_28 : gcf 59 11 28 = some (some 72) := by decide +kernel
abbrev m_M_back : gM := (yX11_back, cX11_back, 2, some .int)
abbrev m_M_isBody : gM := (yX11_isBody, cX11_isBody, 2, some .boolean)
theorem w_1165 : (Cond.fieldLink "TwoAgreeModel" (296 : Nat) "TwoAgreeModel" "bodies" "I") ∈ gtb := gt_sg sg_5 130 (by decide +kernel) (by decide +kernel)
theorem fl_RX11_296 : gFL RX11 296 11 30 (tyX11 30) false := ⟨RX11, TX11, 40, tyX11, rfl, uw_11, tyX11_ok, nmX11, by decide, w_1165, tyX11_ok 30 (by decide), rfl⟩
theorem gc_59_30 : gcf 59 11 30 = some none := by decide +kernel
abbrev m_M_kindOf : gM := (yX11_kindOf, cX11_kindOf, 2, some .int)
theorem ga_74 : gia 74 = some 50 := by decide +kernel
theorem w_1166 : (Cond.fieldLink "TwoAgreeModel" (52 : Nat) "TwoAgreeModel" "bodyKind" "[I") ∈ gtb := gt_sg sg_5 131 (by decide +kernel) (by decide +kernel)
theorem fl_RX11_52 : gFL RX11 52 11 31 (tyX11 31) true := ⟨RX11, TX11, 40, tyX11, rfl, uw_11, tyX11_ok, nmX11, by decide, w_1166, tyX11_ok 31 (by decide), rfl⟩
theorem gc_59_31 : gcf 59 11 31 = some (some 74) := by decide +kernel
abbrev m_M_body : gM := (yX11_body, cX11_body, 2, some .int)
abbrev m_M_above : gM := (yX11_above, cX11_above, 1, some .int)
abbrev m_M_runs : gM := (yX11_runs, cX11_runs, 2, none)
theorem ga_75 : gia 75 = some 24 := by decide +kernel
theorem w_1168 : (Cond.fieldLink "TwoAgreeModel" (299 : Nat) "TwoAgreeModel" "ran" "I") ∈ gtb := gt_sg sg_5 133 (by decide +kernel) (by decide +kernel)
theorem fl_RX11_299 : gFL RX11 299 11 33 (tyX11 33) false := ⟨RX11, TX11, 40, tyX11, rfl, uw_11, tyX11_ok, nmX11, by decide, w_1168, tyX11_ok 33 (by decide), rfl⟩
theorem gc_59_33 : gcf 59 11 33 = some none := by decide +kernel
theorem w_1167 : (Cond.fieldLink "TwoAgreeModel" (55 : Nat) "TwoAgreeModel" "trace" "[I") ∈ gtb := gt_sg sg_5 132 (by decide +kernel) (by decide +kernel)
theorem fl_RX11_55 : gFL RX11 55 11 32 (tyX11 32) true := ⟨RX11, TX11, 40, tyX11, rfl, uw_11, tyX11_ok, nmX11, by decide, w_1167, tyX11_ok 32 (by decide), rfl⟩
theorem gc_59_32 : gcf 59 11 32 = some (some 75) := by decide +kernel
abbrev m_M_fallsAs : gM := (yX11_fallsAs, cX11_fallsAs, 3, some .int)
theorem w_1582 : Cond.code m_M_runs.1 m_M_runs.2.1 m_M_runs.2.2.1 m_M_runs.2.2.2 ∈ gtb := gt_sg sg_7 67 (by decide +kernel) (by decide +kernel)
theorem lb_M_runs : gLB m_M_runs 1 := ⟨w_1582, w_87, by decide +kernel, by decide +kernel, by decide +kernel⟩
theorem w_1579 : (Cond.methodLink "TwoAgreeModel" (302 : Nat) ({ cls := "TwoAgreeModel", name := "runs", desc := "(I)V" } : MethodName)) ∈ gtb := gt_sg sg_7 64 (by decide +kernel) (by decide +kernel)
theorem w_1581 : (Cond.instanceMethod ({ cls := "TwoAgreeModel", name := "runs", desc := "(I)V" } : MethodName)) ∈ gtb := gt_sg sg_7 66 (by decide +kernel) (by decide +kernel)
theorem w_69 : Cond.selects m_M_runs.1.cls m_M_runs.1 m_M_runs.1 ∈ gtb := gt_in 69 (by decide +kernel) (by decide +kernel)
theorem lv_RX11_302 : gLV RX11 302 m_M_runs 1 := ⟨lb_M_runs, w_1579, w_1581, w_69⟩
theorem w_1578 : Cond.code m_M_fallsAs.1 m_M_fallsAs.2.1 m_M_fallsAs.2.2.1 m_M_fallsAs.2.2.2 ∈ gtb := gt_sg sg_7 63 (by decide +kernel) (by decide +kernel)
theorem lb_M_fallsAs : gLB m_M_fallsAs 2 := ⟨w_1578, w_87, by decide +kernel, by decide +kernel, by decide +kernel⟩
theorem w_1575 : (Cond.methodLink "TwoAgreeModel" (306 : Nat) ({ cls := "TwoAgreeModel", name := "fallsAs", desc := "(II)I" } : MethodName)) ∈ gtb := gt_sg sg_7 60 (by decide +kernel) (by decide +kernel)
theorem w_1577 : (Cond.instanceMethod ({ cls := "TwoAgreeModel", name := "fallsAs", desc := "(II)I" } : MethodName)) ∈ gtb := gt_sg sg_7 62 (by decide +kernel) (by decide +kernel)
theorem w_68 : Cond.selects m_M_fallsAs.1.cls m_M_fallsAs.1 m_M_fallsAs.1 ∈ gtb := gt_in 68 (by decide +kernel) (by decide +kernel)
theorem lv_RX11_306 : gLV RX11 306 m_M_fallsAs 2 := ⟨lb_M_fallsAs, w_1575, w_1577, w_68⟩
theorem w_1170 : (Cond.fieldLink "TwoAgreeModel" (309 : Nat) "TwoAgreeModel" "ownNumber" "I") ∈ gtb := gt_sg sg_5 135 (by decide +kernel) (by decide +kernel)
theorem fl_RX11_309 : gFL RX11 309 11 35 (tyX11 35) false := ⟨RX11, TX11, 40, tyX11, rfl, uw_11, tyX11_ok, nmX11, by decide, w_1170, tyX11_ok 35 (by decide), rfl⟩
theorem gc_59_35 : gcf 59 11 35 = some none := by decide +kernel
abbrev m_M_deniesAs : gM := (yX11_deniesAs, cX11_deniesAs, 4, some .int)
theorem w_1590 : Cond.code m_M_deniesAs.1 m_M_deniesAs.2.1 m_M_deniesAs.2.2.1 m_M_deniesAs.2.2.2 ∈ gtb := gt_sg sg_7 75 (by decide +kernel) (by decide +kernel)
theorem lb_M_deniesAs : gLB m_M_deniesAs 2 := ⟨w_1590, w_87, by decide +kernel, by decide +kernel, by decide +kernel⟩
theorem w_1587 : (Cond.methodLink "TwoAgreeModel" (318 : Nat) ({ cls := "TwoAgreeModel", name := "deniesAs", desc := "(II)I" } : MethodName)) ∈ gtb := gt_sg sg_7 72 (by decide +kernel) (by decide +kernel)
theorem w_1589 : (Cond.instanceMethod ({ cls := "TwoAgreeModel", name := "deniesAs", desc := "(II)I" } : MethodName)) ∈ gtb := gt_sg sg_7 74 (by decide +kernel) (by decide +kernel)
theorem w_71 : Cond.selects m_M_deniesAs.1.cls m_M_deniesAs.1 m_M_deniesAs.1 ∈ gtb := gt_in 71 (by decide +kernel) (by decide +kernel)
theorem lv_RX11_318 : gLV RX11 318 m_M_deniesAs 2 := ⟨lb_M_deniesAs, w_1587, w_1589, w_71⟩
theorem w_1169 : (Cond.fieldLink "TwoAgreeModel" (315 : Nat) "TwoAgreeModel" "ownKind" "I") ∈ gtb := gt_sg sg_5 134 (by decide +kernel) (by decide +kernel)
theorem fl_RX11_315 : gFL RX11 315 11 34 (tyX11 34) false := ⟨RX11, TX11, 40, tyX11, rfl, uw_11, tyX11_ok, nmX11, by decide, w_1169, tyX11_ok 34 (by decide), rfl⟩
theorem gc_59_34 : gcf 59 11 34 = some none := by decide +kernel
abbrev m_M_saysAs : gM := (yX11_saysAs, cX11_saysAs, 4, some .int)
theorem w_1586 : Cond.code m_M_saysAs.1 m_M_saysAs.2.1 m_M_saysAs.2.2.1 m_M_saysAs.2.2.2 ∈ gtb := gt_sg sg_7 71 (by decide +kernel) (by decide +kernel)
theorem lb_M_saysAs : gLB m_M_saysAs 2 := ⟨w_1586, w_87, by decide +kernel, by decide +kernel, by decide +kernel⟩
theorem w_1583 : (Cond.methodLink "TwoAgreeModel" (312 : Nat) ({ cls := "TwoAgreeModel", name := "saysAs", desc := "(II)I" } : MethodName)) ∈ gtb := gt_sg sg_7 68 (by decide +kernel) (by decide +kernel)
theorem w_1585 : (Cond.instanceMethod ({ cls := "TwoAgreeModel", name := "saysAs", desc := "(II)I" } : MethodName)) ∈ gtb := gt_sg sg_7 70 (by decide +kernel) (by decide +kernel)
theorem w_70 : Cond.selects m_M_saysAs.1.cls m_M_saysAs.1 m_M_saysAs.1 ∈ gtb := gt_in 70 (by decide +kernel) (by decide +kernel)
theorem lv_RX11_312 : gLV RX11 312 m_M_saysAs 2 := ⟨lb_M_saysAs, w_1583, w_1585, w_70⟩
abbrev m_M_tellsAs : gM := (yX11_tellsAs, cX11_tellsAs, 4, some .int)
theorem w_1594 : Cond.code m_M_tellsAs.1 m_M_tellsAs.2.1 m_M_tellsAs.2.2.1 m_M_tellsAs.2.2.2 ∈ gtb := gt_sg sg_7 79 (by decide +kernel) (by decide +kernel)
theorem lb_M_tellsAs : gLB m_M_tellsAs 2 := ⟨w_1594, w_87, by decide +kernel, by decide +kernel, by decide +kernel⟩
theorem w_1591 : (Cond.methodLink "TwoAgreeModel" (321 : Nat) ({ cls := "TwoAgreeModel", name := "tellsAs", desc := "(II)I" } : MethodName)) ∈ gtb := gt_sg sg_7 76 (by decide +kernel) (by decide +kernel)
theorem w_1593 : (Cond.instanceMethod ({ cls := "TwoAgreeModel", name := "tellsAs", desc := "(II)I" } : MethodName)) ∈ gtb := gt_sg sg_7 78 (by decide +kernel) (by decide +kernel)
theorem w_72 : Cond.selects m_M_tellsAs.1.cls m_M_tellsAs.1 m_M_tellsAs.1 ∈ gtb := gt_in 72 (by decide +kernel) (by decide +kernel)
theorem lv_RX11_321 : gLV RX11 321 m_M_tellsAs 2 := ⟨lb_M_tellsAs, w_1591, w_1593, w_72⟩
abbrev m_M_act : gM := (yX11_act, cX11_act, 4, some .int)
theorem w_1574 : Cond.code m_M_isBody.1 m_M_isBody.2.1 m_M_isBody.2.2.1 m_M_isBody.2.2.2 ∈ gtb := gt_sg sg_7 59 (by decide +kernel) (by decide +kernel)
theorem lb_M_isBody : gLB m_M_isBody 1 := ⟨w_1574, w_87, by decide +kernel, by decide +kernel, by decide +kernel⟩
theorem w_1571 : (Cond.methodLink "TwoAgreeModel" (324 : Nat) ({ cls := "TwoAgreeModel", name := "isBody", desc := "(I)Z" } : MethodName)) ∈ gtb := gt_sg sg_7 56 (by decide +kernel) (by decide +kernel)
theorem w_1573 : (Cond.instanceMethod ({ cls := "TwoAgreeModel", name := "isBody", desc := "(I)Z" } : MethodName)) ∈ gtb := gt_sg sg_7 58 (by decide +kernel) (by decide +kernel)
theorem w_67 : Cond.selects m_M_isBody.1.cls m_M_isBody.1 m_M_isBody.1 ∈ gtb := gt_in 67 (by decide +kernel) (by decide +kernel)
theorem lv_RX11_324 : gLV RX11 324 m_M_isBody 1 := ⟨lb_M_isBody, w_1571, w_1573, w_67⟩
abbrev m_M_trace : gM := (yX11_trace, cX11_trace, 2, some .int)
abbrev m_M_keep : gM := (yX11_keep, cX11_keep, 3, some .int)
abbrev m_M_row : gM := (yX11_row, cX11_row, 5, some .int)
abbrev m_M_refusal : gM := (yX11_refusal, cX11_refusal, 3, some .int)
abbrev m_M_asSort : gM := (yX11_asSort, cX11_asSort, 3, some .long)
abbrev m_M_put : gM := (yX11_put, cX11_put, 6, some .int)
theorem w_1614 : Cond.code m_M_refusal.1 m_M_refusal.2.1 m_M_refusal.2.2.1 m_M_refusal.2.2.2 ∈ gtb := gt_sg sg_7 99 (by decide +kernel) (by decide +kernel)
theorem lb_M_refusal : gLB m_M_refusal 2 := ⟨w_1614, w_87, by decide +kernel, by decide +kernel, by decide +kernel⟩
theorem w_1611 : (Cond.methodLink "TwoAgreeModel" (327 : Nat) ({ cls := "TwoAgreeModel", name := "refusal", desc := "(II)I" } : MethodName)) ∈ gtb := gt_sg sg_7 96 (by decide +kernel) (by decide +kernel)
theorem w_1613 : (Cond.instanceMethod ({ cls := "TwoAgreeModel", name := "refusal", desc := "(II)I" } : MethodName)) ∈ gtb := gt_sg sg_7 98 (by decide +kernel) (by decide +kernel)
theorem w_73 : Cond.selects m_M_refusal.1.cls m_M_refusal.1 m_M_refusal.1 ∈ gtb := gt_in 73 (by decide +kernel) (by decide +kernel)
theorem lv_RX11_327 : gLV RX11 327 m_M_refusal 2 := ⟨lb_M_refusal, w_1611, w_1613, w_73⟩
theorem w_1617 : Cond.code m_M_asSort.1 m_M_asSort.2.1 m_M_asSort.2.2.1 m_M_asSort.2.2.2 ∈ gtb := gt_sg sg_7 102 (by decide +kernel) (by decide +kernel)
theorem lb_M_asSort : gLB m_M_asSort 2 := ⟨w_1617, w_87, by decide +kernel, by decide +kernel, by decide +kernel⟩
theorem w_1616 : (Cond.static ({ cls := "TwoAgreeModel", name := "asSort", desc := "(IJ)J" } : MethodName)) ∈ gtb := gt_sg sg_7 101 (by decide +kernel) (by decide +kernel)
theorem w_1615 : (Cond.methodLink "TwoAgreeModel" (330 : Nat) ({ cls := "TwoAgreeModel", name := "asSort", desc := "(IJ)J" } : MethodName)) ∈ gtb := gt_sg sg_7 100 (by decide +kernel) (by decide +kernel)
theorem ls_RX11_330 : gLS RX11 330 m_M_asSort 2 := ⟨lb_M_asSort, w_1615, w_1616⟩
abbrev m_M_element : gM := (yX11_element, cX11_element, 3, some .long)
abbrev m_M_shift : gM := (yX11_shift, cX11_shift, 7, some .int)
theorem ga_79 : gla 79 = some 60 := by decide +kernel
theorem w_1174 : (Cond.fieldLink "TwoAgreeModel" (68 : Nat) "TwoAgreeModel" "carried" "[J") ∈ gtb := gt_sg sg_5 139 (by decide +kernel) (by decide +kernel)
theorem fl_RX11_68 : gFL RX11 68 11 39 (tyX11 39) true := ⟨RX11, TX11, 40, tyX11, rfl, uw_11, tyX11_ok, nmX11, by decide, w_1174, tyX11_ok 39 (by decide), rfl⟩
theorem gc_59_39 : gcf 59 11 39 = some (some 79) := by decide +kernel
abbrev m_M_taken : gM := (yX11_taken, cX11_taken, 4, some .int)
theorem w_1633 : Cond.code m_M_kindOf.1 m_M_kindOf.2.1 m_M_kindOf.2.2.1 m_M_kindOf.2.2.2 ∈ gtb := gt_sg sg_7 118 (by decide +kernel) (by decide +kernel)
theorem lb_M_kindOf : gLB m_M_kindOf 1 := ⟨w_1633, w_87, by decide +kernel, by decide +kernel, by decide +kernel⟩
theorem w_1630 : (Cond.methodLink "TwoAgreeModel" (334 : Nat) ({ cls := "TwoAgreeModel", name := "kindOf", desc := "(I)I" } : MethodName)) ∈ gtb := gt_sg sg_7 115 (by decide +kernel) (by decide +kernel)
theorem w_1632 : (Cond.instanceMethod ({ cls := "TwoAgreeModel", name := "kindOf", desc := "(I)I" } : MethodName)) ∈ gtb := gt_sg sg_7 117 (by decide +kernel) (by decide +kernel)
theorem w_74 : Cond.selects m_M_kindOf.1.cls m_M_kindOf.1 m_M_kindOf.1 ∈ gtb := gt_in 74 (by decide +kernel) (by decide +kernel)
theorem lv_RX11_334 : gLV RX11 334 m_M_kindOf 1 := ⟨lb_M_kindOf, w_1630, w_1632, w_74⟩
theorem w_1636 : Cond.code m_M_above.1 m_M_above.2.1 m_M_above.2.2.1 m_M_above.2.2.2 ∈ gtb := gt_sg sg_7 121 (by decide +kernel) (by decide +kernel)
theorem lb_M_above : gLB m_M_above 1 := ⟨w_1636, w_87, by decide +kernel, by decide +kernel, by decide +kernel⟩
theorem w_1635 : (Cond.static ({ cls := "TwoAgreeModel", name := "above", desc := "(I)I" } : MethodName)) ∈ gtb := gt_sg sg_7 120 (by decide +kernel) (by decide +kernel)
theorem w_1634 : (Cond.methodLink "TwoAgreeModel" (337 : Nat) ({ cls := "TwoAgreeModel", name := "above", desc := "(I)I" } : MethodName)) ∈ gtb := gt_sg sg_7 119 (by decide +kernel) (by decide +kernel)
theorem ls_RX11_337 : gLS RX11 337 m_M_above 1 := ⟨lb_M_above, w_1634, w_1635⟩
abbrev m_M_count : gM := (yX11_count, cX11_count, 2, some .int)
