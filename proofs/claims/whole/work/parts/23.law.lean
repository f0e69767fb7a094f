theorem w_461 : Cond.code m_T_citizen.1 m_T_citizen.2.1 m_T_citizen.2.2.1 m_T_citizen.2.2.2 ∈ gtb := gt_sg sg_2 146 (by decide +kernel) (by decide +kernel)
theorem lb_T_citizen : gLB m_T_citizen 1 := ⟨w_461, w_76, by decide +kernel, by decide +kernel, by decide +kernel⟩
theorem w_458 : (Cond.methodLink "TwoAgreeLaw" (13 : Nat) ({ cls := "TwoAgree", name := "citizen", desc := "(I)I" } : MethodName)) ∈ gtb := gt_sg sg_2 143 (by decide +kernel) (by decide +kernel)
theorem w_459 : (Cond.instanceMethod ({ cls := "TwoAgree", name := "citizen", desc := "(I)I" } : MethodName)) ∈ gtb := gt_sg sg_2 144 (by decide +kernel) (by decide +kernel)
theorem w_460 : (Cond.selects "TwoAgree" ({ cls := "TwoAgree", name := "citizen", desc := "(I)I" } : MethodName) ({ cls := "TwoAgree", name := "citizen", desc := "(I)I" } : MethodName)) ∈ gtb := gt_sg sg_2 145 (by decide +kernel) (by decide +kernel)
theorem lv_RL_13 : gLV RL 13 m_T_citizen 1 := ⟨lb_T_citizen, w_458, w_459, w_460⟩
theorem w_1267 : Cond.code m_M_citizen.1 m_M_citizen.2.1 m_M_citizen.2.2.1 m_M_citizen.2.2.2 ∈ gtb := gt_sg sg_5 232 (by decide +kernel) (by decide +kernel)
theorem lb_M_citizen : gLB m_M_citizen 1 := ⟨w_1267, w_87, by decide +kernel, by decide +kernel, by decide +kernel⟩
theorem w_1264 : (Cond.methodLink "TwoAgreeLaw" (17 : Nat) ({ cls := "TwoAgreeModel", name := "citizen", desc := "(I)I" } : MethodName)) ∈ gtb := gt_sg sg_5 229 (by decide +kernel) (by decide +kernel)
theorem w_1265 : (Cond.instanceMethod ({ cls := "TwoAgreeModel", name := "citizen", desc := "(I)I" } : MethodName)) ∈ gtb := gt_sg sg_5 230 (by decide +kernel) (by decide +kernel)
theorem w_1266 : (Cond.selects "TwoAgreeModel" ({ cls := "TwoAgreeModel", name := "citizen", desc := "(I)I" } : MethodName) ({ cls := "TwoAgreeModel", name := "citizen", desc := "(I)I" } : MethodName)) ∈ gtb := gt_sg sg_5 231 (by decide +kernel) (by decide +kernel)
theorem lv_RL_17 : gLV RL 17 m_M_citizen 1 := ⟨lb_M_citizen, w_1264, w_1265, w_1266⟩
theorem w_472 : Cond.code m_T_citizens.1 m_T_citizens.2.1 m_T_citizens.2.2.1 m_T_citizens.2.2.2 ∈ gtb := gt_sg sg_2 157 (by decide +kernel) (by decide +kernel)
theorem lb_T_citizens : gLB m_T_citizens 3 := ⟨w_472, w_76, by decide +kernel, by decide +kernel, by decide +kernel⟩
theorem w_469 : (Cond.methodLink "TwoAgreeLaw" (18 : Nat) ({ cls := "TwoAgree", name := "citizens", desc := "(III)I" } : MethodName)) ∈ gtb := gt_sg sg_2 154 (by decide +kernel) (by decide +kernel)
theorem w_470 : (Cond.instanceMethod ({ cls := "TwoAgree", name := "citizens", desc := "(III)I" } : MethodName)) ∈ gtb := gt_sg sg_2 155 (by decide +kernel) (by decide +kernel)
theorem w_471 : (Cond.selects "TwoAgree" ({ cls := "TwoAgree", name := "citizens", desc := "(III)I" } : MethodName) ({ cls := "TwoAgree", name := "citizens", desc := "(III)I" } : MethodName)) ∈ gtb := gt_sg sg_2 156 (by decide +kernel) (by decide +kernel)
theorem lv_RL_18 : gLV RL 18 m_T_citizens 3 := ⟨lb_T_citizens, w_469, w_470, w_471⟩
theorem w_1284 : Cond.code m_M_citizens.1 m_M_citizens.2.1 m_M_citizens.2.2.1 m_M_citizens.2.2.2 ∈ gtb := gt_sg sg_6 9 (by decide +kernel) (by decide +kernel)
theorem lb_M_citizens : gLB m_M_citizens 3 := ⟨w_1284, w_87, by decide +kernel, by decide +kernel, by decide +kernel⟩
theorem w_1281 : (Cond.methodLink "TwoAgreeLaw" (22 : Nat) ({ cls := "TwoAgreeModel", name := "citizens", desc := "(III)I" } : MethodName)) ∈ gtb := gt_sg sg_6 6 (by decide +kernel) (by decide +kernel)
theorem w_1282 : (Cond.instanceMethod ({ cls := "TwoAgreeModel", name := "citizens", desc := "(III)I" } : MethodName)) ∈ gtb := gt_sg sg_6 7 (by decide +kernel) (by decide +kernel)
theorem w_1283 : (Cond.selects "TwoAgreeModel" ({ cls := "TwoAgreeModel", name := "citizens", desc := "(III)I" } : MethodName) ({ cls := "TwoAgreeModel", name := "citizens", desc := "(III)I" } : MethodName)) ∈ gtb := gt_sg sg_6 8 (by decide +kernel) (by decide +kernel)
theorem lv_RL_22 : gLV RL 22 m_M_citizens 3 := ⟨lb_M_citizens, w_1281, w_1282, w_1283⟩
theorem w_502 : Cond.code m_T_mend.1 m_T_mend.2.1 m_T_mend.2.2.1 m_T_mend.2.2.2 ∈ gtb := gt_sg sg_2 187 (by decide +kernel) (by decide +kernel)
theorem lb_T_mend : gLB m_T_mend 3 := ⟨w_502, w_76, by decide +kernel, by decide +kernel, by decide +kernel⟩
theorem w_499 : (Cond.methodLink "TwoAgreeLaw" (23 : Nat) ({ cls := "TwoAgree", name := "mend", desc := "(III)I" } : MethodName)) ∈ gtb := gt_sg sg_2 184 (by decide +kernel) (by decide +kernel)
theorem w_500 : (Cond.instanceMethod ({ cls := "TwoAgree", name := "mend", desc := "(III)I" } : MethodName)) ∈ gtb := gt_sg sg_2 185 (by decide +kernel) (by decide +kernel)
theorem w_501 : (Cond.selects "TwoAgree" ({ cls := "TwoAgree", name := "mend", desc := "(III)I" } : MethodName) ({ cls := "TwoAgree", name := "mend", desc := "(III)I" } : MethodName)) ∈ gtb := gt_sg sg_2 186 (by decide +kernel) (by decide +kernel)
theorem lv_RL_23 : gLV RL 23 m_T_mend 3 := ⟨lb_T_mend, w_499, w_500, w_501⟩
theorem w_1293 : Cond.code m_M_mend.1 m_M_mend.2.1 m_M_mend.2.2.1 m_M_mend.2.2.2 ∈ gtb := gt_sg sg_6 18 (by decide +kernel) (by decide +kernel)
theorem lb_M_mend : gLB m_M_mend 3 := ⟨w_1293, w_87, by decide +kernel, by decide +kernel, by decide +kernel⟩
theorem w_1290 : (Cond.methodLink "TwoAgreeLaw" (26 : Nat) ({ cls := "TwoAgreeModel", name := "mend", desc := "(III)I" } : MethodName)) ∈ gtb := gt_sg sg_6 15 (by decide +kernel) (by decide +kernel)
theorem w_1291 : (Cond.instanceMethod ({ cls := "TwoAgreeModel", name := "mend", desc := "(III)I" } : MethodName)) ∈ gtb := gt_sg sg_6 16 (by decide +kernel) (by decide +kernel)
theorem w_1292 : (Cond.selects "TwoAgreeModel" ({ cls := "TwoAgreeModel", name := "mend", desc := "(III)I" } : MethodName) ({ cls := "TwoAgreeModel", name := "mend", desc := "(III)I" } : MethodName)) ∈ gtb := gt_sg sg_6 17 (by decide +kernel) (by decide +kernel)
theorem lv_RL_26 : gLV RL 26 m_M_mend 3 := ⟨lb_M_mend, w_1290, w_1291, w_1292⟩
theorem w_533 : Cond.code m_T_of.1 m_T_of.2.1 m_T_of.2.2.1 m_T_of.2.2.2 ∈ gtb := gt_sg sg_2 218 (by decide +kernel) (by decide +kernel)
theorem lb_T_of : gLB m_T_of 2 := ⟨w_533, w_76, by decide +kernel, by decide +kernel, by decide +kernel⟩
theorem w_530 : (Cond.methodLink "TwoAgreeLaw" (27 : Nat) ({ cls := "TwoAgree", name := "of", desc := "(II)I" } : MethodName)) ∈ gtb := gt_sg sg_2 215 (by decide +kernel) (by decide +kernel)
theorem w_531 : (Cond.instanceMethod ({ cls := "TwoAgree", name := "of", desc := "(II)I" } : MethodName)) ∈ gtb := gt_sg sg_2 216 (by decide +kernel) (by decide +kernel)
theorem w_532 : (Cond.selects "TwoAgree" ({ cls := "TwoAgree", name := "of", desc := "(II)I" } : MethodName) ({ cls := "TwoAgree", name := "of", desc := "(II)I" } : MethodName)) ∈ gtb := gt_sg sg_2 217 (by decide +kernel) (by decide +kernel)
theorem lv_RL_27 : gLV RL 27 m_T_of 2 := ⟨lb_T_of, w_530, w_531, w_532⟩
theorem w_1320 : Cond.code m_M_of.1 m_M_of.2.1 m_M_of.2.2.1 m_M_of.2.2.2 ∈ gtb := gt_sg sg_6 45 (by decide +kernel) (by decide +kernel)
theorem lb_M_of : gLB m_M_of 2 := ⟨w_1320, w_87, by decide +kernel, by decide +kernel, by decide +kernel⟩
theorem w_1317 : (Cond.methodLink "TwoAgreeLaw" (31 : Nat) ({ cls := "TwoAgreeModel", name := "of", desc := "(II)I" } : MethodName)) ∈ gtb := gt_sg sg_6 42 (by decide +kernel) (by decide +kernel)
theorem w_1318 : (Cond.instanceMethod ({ cls := "TwoAgreeModel", name := "of", desc := "(II)I" } : MethodName)) ∈ gtb := gt_sg sg_6 43 (by decide +kernel) (by decide +kernel)
theorem w_1319 : (Cond.selects "TwoAgreeModel" ({ cls := "TwoAgreeModel", name := "of", desc := "(II)I" } : MethodName) ({ cls := "TwoAgreeModel", name := "of", desc := "(II)I" } : MethodName)) ∈ gtb := gt_sg sg_6 44 (by decide +kernel) (by decide +kernel)
theorem lv_RL_31 : gLV RL 31 m_M_of 2 := ⟨lb_M_of, w_1317, w_1318, w_1319⟩
theorem w_537 : Cond.code m_T_feed.1 m_T_feed.2.1 m_T_feed.2.2.1 m_T_feed.2.2.2 ∈ gtb := gt_sg sg_2 222 (by decide +kernel) (by decide +kernel)
theorem lb_T_feed : gLB m_T_feed 1 := ⟨w_537, w_76, by decide +kernel, by decide +kernel, by decide +kernel⟩
theorem w_534 : (Cond.methodLink "TwoAgreeLaw" (32 : Nat) ({ cls := "TwoAgree", name := "feed", desc := "(I)I" } : MethodName)) ∈ gtb := gt_sg sg_2 219 (by decide +kernel) (by decide +kernel)
theorem w_535 : (Cond.instanceMethod ({ cls := "TwoAgree", name := "feed", desc := "(I)I" } : MethodName)) ∈ gtb := gt_sg sg_2 220 (by decide +kernel) (by decide +kernel)
theorem w_536 : (Cond.selects "TwoAgree" ({ cls := "TwoAgree", name := "feed", desc := "(I)I" } : MethodName) ({ cls := "TwoAgree", name := "feed", desc := "(I)I" } : MethodName)) ∈ gtb := gt_sg sg_2 221 (by decide +kernel) (by decide +kernel)
theorem lv_RL_32 : gLV RL 32 m_T_feed 1 := ⟨lb_T_feed, w_534, w_535, w_536⟩
theorem w_1324 : Cond.code m_M_feed.1 m_M_feed.2.1 m_M_feed.2.2.1 m_M_feed.2.2.2 ∈ gtb := gt_sg sg_6 49 (by decide +kernel) (by decide +kernel)
theorem lb_M_feed : gLB m_M_feed 1 := ⟨w_1324, w_87, by decide +kernel, by decide +kernel, by decide +kernel⟩
theorem w_1321 : (Cond.methodLink "TwoAgreeLaw" (35 : Nat) ({ cls := "TwoAgreeModel", name := "feed", desc := "(I)I" } : MethodName)) ∈ gtb := gt_sg sg_6 46 (by decide +kernel) (by decide +kernel)
theorem w_1322 : (Cond.instanceMethod ({ cls := "TwoAgreeModel", name := "feed", desc := "(I)I" } : MethodName)) ∈ gtb := gt_sg sg_6 47 (by decide +kernel) (by decide +kernel)
theorem w_1323 : (Cond.selects "TwoAgreeModel" ({ cls := "TwoAgreeModel", name := "feed", desc := "(I)I" } : MethodName) ({ cls := "TwoAgreeModel", name := "feed", desc := "(I)I" } : MethodName)) ∈ gtb := gt_sg sg_6 48 (by decide +kernel) (by decide +kernel)
theorem lv_RL_35 : gLV RL 35 m_M_feed 1 := ⟨lb_M_feed, w_1321, w_1322, w_1323⟩
theorem w_545 : Cond.code m_T_law.1 m_T_law.2.1 m_T_law.2.2.1 m_T_law.2.2.2 ∈ gtb := gt_sg sg_2 230 (by decide +kernel) (by decide +kernel)
theorem lb_T_law : gLB m_T_law 0 := ⟨w_545, w_76, by decide +kernel, by decide +kernel, by decide +kernel⟩
theorem w_542 : (Cond.methodLink "TwoAgreeLaw" (36 : Nat) ({ cls := "TwoAgree", name := "law", desc := "()I" } : MethodName)) ∈ gtb := gt_sg sg_2 227 (by decide +kernel) (by decide +kernel)
theorem w_543 : (Cond.instanceMethod ({ cls := "TwoAgree", name := "law", desc := "()I" } : MethodName)) ∈ gtb := gt_sg sg_2 228 (by decide +kernel) (by decide +kernel)
theorem w_544 : (Cond.selects "TwoAgree" ({ cls := "TwoAgree", name := "law", desc := "()I" } : MethodName) ({ cls := "TwoAgree", name := "law", desc := "()I" } : MethodName)) ∈ gtb := gt_sg sg_2 229 (by decide +kernel) (by decide +kernel)
theorem lv_RL_36 : gLV RL 36 m_T_law 0 := ⟨lb_T_law, w_542, w_543, w_544⟩
theorem w_1329 : Cond.code m_M_law.1 m_M_law.2.1 m_M_law.2.2.1 m_M_law.2.2.2 ∈ gtb := gt_sg sg_6 54 (by decide +kernel) (by decide +kernel)
theorem lb_M_law : gLB m_M_law 0 := ⟨w_1329, w_87, by decide +kernel, by decide +kernel, by decide +kernel⟩
theorem w_1326 : (Cond.methodLink "TwoAgreeLaw" (40 : Nat) ({ cls := "TwoAgreeModel", name := "law", desc := "()I" } : MethodName)) ∈ gtb := gt_sg sg_6 51 (by decide +kernel) (by decide +kernel)
theorem w_1327 : (Cond.instanceMethod ({ cls := "TwoAgreeModel", name := "law", desc := "()I" } : MethodName)) ∈ gtb := gt_sg sg_6 52 (by decide +kernel) (by decide +kernel)
theorem w_1328 : (Cond.selects "TwoAgreeModel" ({ cls := "TwoAgreeModel", name := "law", desc := "()I" } : MethodName) ({ cls := "TwoAgreeModel", name := "law", desc := "()I" } : MethodName)) ∈ gtb := gt_sg sg_6 53 (by decide +kernel) (by decide +kernel)
theorem lv_RL_40 : gLV RL 40 m_M_law 0 := ⟨lb_M_law, w_1326, w_1327, w_1328⟩
theorem w_681 : Cond.code m_T_says.1 m_T_says.2.1 m_T_says.2.2.1 m_T_says.2.2.2 ∈ gtb := gt_sg sg_3 126 (by decide +kernel) (by decide +kernel)
theorem lb_T_says : gLB m_T_says 1 := ⟨w_681, w_76, by decide +kernel, by decide +kernel, by decide +kernel⟩
theorem w_678 : (Cond.methodLink "TwoAgreeLaw" (41 : Nat) ({ cls := "TwoAgree", name := "says", desc := "(I)I" } : MethodName)) ∈ gtb := gt_sg sg_3 123 (by decide +kernel) (by decide +kernel)
theorem w_679 : (Cond.instanceMethod ({ cls := "TwoAgree", name := "says", desc := "(I)I" } : MethodName)) ∈ gtb := gt_sg sg_3 124 (by decide +kernel) (by decide +kernel)
theorem w_680 : (Cond.selects "TwoAgree" ({ cls := "TwoAgree", name := "says", desc := "(I)I" } : MethodName) ({ cls := "TwoAgree", name := "says", desc := "(I)I" } : MethodName)) ∈ gtb := gt_sg sg_3 125 (by decide +kernel) (by decide +kernel)
theorem lv_RL_41 : gLV RL 41 m_T_says 1 := ⟨lb_T_says, w_678, w_679, w_680⟩
theorem w_1376 : Cond.code m_M_says.1 m_M_says.2.1 m_M_says.2.2.1 m_M_says.2.2.2 ∈ gtb := gt_sg sg_6 101 (by decide +kernel) (by decide +kernel)
theorem lb_M_says : gLB m_M_says 1 := ⟨w_1376, w_87, by decide +kernel, by decide +kernel, by decide +kernel⟩
theorem w_1373 : (Cond.methodLink "TwoAgreeLaw" (44 : Nat) ({ cls := "TwoAgreeModel", name := "says", desc := "(I)I" } : MethodName)) ∈ gtb := gt_sg sg_6 98 (by decide +kernel) (by decide +kernel)
theorem w_1374 : (Cond.instanceMethod ({ cls := "TwoAgreeModel", name := "says", desc := "(I)I" } : MethodName)) ∈ gtb := gt_sg sg_6 99 (by decide +kernel) (by decide +kernel)
theorem w_1375 : (Cond.selects "TwoAgreeModel" ({ cls := "TwoAgreeModel", name := "says", desc := "(I)I" } : MethodName) ({ cls := "TwoAgreeModel", name := "says", desc := "(I)I" } : MethodName)) ∈ gtb := gt_sg sg_6 100 (by decide +kernel) (by decide +kernel)
theorem lv_RL_44 : gLV RL 44 m_M_says 1 := ⟨lb_M_says, w_1373, w_1374, w_1375⟩
theorem w_712 : Cond.code m_T_all.1 m_T_all.2.1 m_T_all.2.2.1 m_T_all.2.2.2 ∈ gtb := gt_sg sg_3 157 (by decide +kernel) (by decide +kernel)
theorem lb_T_all : gLB m_T_all 1 := ⟨w_712, w_76, by decide +kernel, by decide +kernel, by decide +kernel⟩
theorem w_709 : (Cond.methodLink "TwoAgreeLaw" (45 : Nat) ({ cls := "TwoAgree", name := "all", desc := "(I)I" } : MethodName)) ∈ gtb := gt_sg sg_3 154 (by decide +kernel) (by decide +kernel)
theorem w_710 : (Cond.instanceMethod ({ cls := "TwoAgree", name := "all", desc := "(I)I" } : MethodName)) ∈ gtb := gt_sg sg_3 155 (by decide +kernel) (by decide +kernel)
theorem w_711 : (Cond.selects "TwoAgree" ({ cls := "TwoAgree", name := "all", desc := "(I)I" } : MethodName) ({ cls := "TwoAgree", name := "all", desc := "(I)I" } : MethodName)) ∈ gtb := gt_sg sg_3 156 (by decide +kernel) (by decide +kernel)
theorem lv_RL_45 : gLV RL 45 m_T_all 1 := ⟨lb_T_all, w_709, w_710, w_711⟩
theorem w_1384 : Cond.code m_M_all.1 m_M_all.2.1 m_M_all.2.2.1 m_M_all.2.2.2 ∈ gtb := gt_sg sg_6 109 (by decide +kernel) (by decide +kernel)
theorem lb_M_all : gLB m_M_all 1 := ⟨w_1384, w_87, by decide +kernel, by decide +kernel, by decide +kernel⟩
theorem w_1381 : (Cond.methodLink "TwoAgreeLaw" (48 : Nat) ({ cls := "TwoAgreeModel", name := "all", desc := "(I)I" } : MethodName)) ∈ gtb := gt_sg sg_6 106 (by decide +kernel) (by decide +kernel)
theorem w_1382 : (Cond.instanceMethod ({ cls := "TwoAgreeModel", name := "all", desc := "(I)I" } : MethodName)) ∈ gtb := gt_sg sg_6 107 (by decide +kernel) (by decide +kernel)
theorem w_1383 : (Cond.selects "TwoAgreeModel" ({ cls := "TwoAgreeModel", name := "all", desc := "(I)I" } : MethodName) ({ cls := "TwoAgreeModel", name := "all", desc := "(I)I" } : MethodName)) ∈ gtb := gt_sg sg_6 108 (by decide +kernel) (by decide +kernel)
theorem lv_RL_48 : gLV RL 48 m_M_all 1 := ⟨lb_M_all, w_1381, w_1382, w_1383⟩
theorem w_755 : Cond.code m_T_saying.1 m_T_saying.2.1 m_T_saying.2.2.1 m_T_saying.2.2.2 ∈ gtb := gt_sg sg_3 200 (by decide +kernel) (by decide +kernel)
theorem lb_T_saying : gLB m_T_saying 1 := ⟨w_755, w_76, by decide +kernel, by decide +kernel, by decide +kernel⟩
theorem w_752 : (Cond.methodLink "TwoAgreeLaw" (49 : Nat) ({ cls := "TwoAgree", name := "saying", desc := "(I)I" } : MethodName)) ∈ gtb := gt_sg sg_3 197 (by decide +kernel) (by decide +kernel)
theorem w_753 : (Cond.instanceMethod ({ cls := "TwoAgree", name := "saying", desc := "(I)I" } : MethodName)) ∈ gtb := gt_sg sg_3 198 (by decide +kernel) (by decide +kernel)
theorem w_754 : (Cond.selects "TwoAgree" ({ cls := "TwoAgree", name := "saying", desc := "(I)I" } : MethodName) ({ cls := "TwoAgree", name := "saying", desc := "(I)I" } : MethodName)) ∈ gtb := gt_sg sg_3 199 (by decide +kernel) (by decide +kernel)
theorem lv_RL_49 : gLV RL 49 m_T_saying 1 := ⟨lb_T_saying, w_752, w_753, w_754⟩
theorem w_1415 : Cond.code m_M_saying.1 m_M_saying.2.1 m_M_saying.2.2.1 m_M_saying.2.2.2 ∈ gtb := gt_sg sg_6 140 (by decide +kernel) (by decide +kernel)
theorem lb_M_saying : gLB m_M_saying 1 := ⟨w_1415, w_87, by decide +kernel, by decide +kernel, by decide +kernel⟩
theorem w_1412 : (Cond.methodLink "TwoAgreeLaw" (52 : Nat) ({ cls := "TwoAgreeModel", name := "saying", desc := "(I)I" } : MethodName)) ∈ gtb := gt_sg sg_6 137 (by decide +kernel) (by decide +kernel)
theorem w_1413 : (Cond.instanceMethod ({ cls := "TwoAgreeModel", name := "saying", desc := "(I)I" } : MethodName)) ∈ gtb := gt_sg sg_6 138 (by decide +kernel) (by decide +kernel)
theorem w_1414 : (Cond.selects "TwoAgreeModel" ({ cls := "TwoAgreeModel", name := "saying", desc := "(I)I" } : MethodName) ({ cls := "TwoAgreeModel", name := "saying", desc := "(I)I" } : MethodName)) ∈ gtb := gt_sg sg_6 139 (by decide +kernel) (by decide +kernel)
theorem lv_RL_52 : gLV RL 52 m_M_saying 1 := ⟨lb_M_saying, w_1412, w_1413, w_1414⟩
theorem w_763 : Cond.code m_T_claims.1 m_T_claims.2.1 m_T_claims.2.2.1 m_T_claims.2.2.2 ∈ gtb := gt_sg sg_3 208 (by decide +kernel) (by decide +kernel)
theorem lb_T_claims : gLB m_T_claims 3 := ⟨w_763, w_76, by decide +kernel, by decide +kernel, by decide +kernel⟩
theorem w_760 : (Cond.methodLink "TwoAgreeLaw" (53 : Nat) ({ cls := "TwoAgree", name := "claims", desc := "(III)I" } : MethodName)) ∈ gtb := gt_sg sg_3 205 (by decide +kernel) (by decide +kernel)
theorem w_761 : (Cond.instanceMethod ({ cls := "TwoAgree", name := "claims", desc := "(III)I" } : MethodName)) ∈ gtb := gt_sg sg_3 206 (by decide +kernel) (by decide +kernel)
theorem w_762 : (Cond.selects "TwoAgree" ({ cls := "TwoAgree", name := "claims", desc := "(III)I" } : MethodName) ({ cls := "TwoAgree", name := "claims", desc := "(III)I" } : MethodName)) ∈ gtb := gt_sg sg_3 207 (by decide +kernel) (by decide +kernel)
theorem lv_RL_53 : gLV RL 53 m_T_claims 3 := ⟨lb_T_claims, w_760, w_761, w_762⟩
theorem w_1419 : Cond.code m_M_claims.1 m_M_claims.2.1 m_M_claims.2.2.1 m_M_claims.2.2.2 ∈ gtb := gt_sg sg_6 144 (by decide +kernel) (by decide +kernel)
theorem lb_M_claims : gLB m_M_claims 3 := ⟨w_1419, w_87, by decide +kernel, by decide +kernel, by decide +kernel⟩
theorem w_1416 : (Cond.methodLink "TwoAgreeLaw" (56 : Nat) ({ cls := "TwoAgreeModel", name := "claims", desc := "(III)I" } : MethodName)) ∈ gtb := gt_sg sg_6 141 (by decide +kernel) (by decide +kernel)
theorem w_1417 : (Cond.instanceMethod ({ cls := "TwoAgreeModel", name := "claims", desc := "(III)I" } : MethodName)) ∈ gtb := gt_sg sg_6 142 (by decide +kernel) (by decide +kernel)
theorem w_1418 : (Cond.selects "TwoAgreeModel" ({ cls := "TwoAgreeModel", name := "claims", desc := "(III)I" } : MethodName) ({ cls := "TwoAgreeModel", name := "claims", desc := "(III)I" } : MethodName)) ∈ gtb := gt_sg sg_6 143 (by decide +kernel) (by decide +kernel)
theorem lv_RL_56 : gLV RL 56 m_M_claims 3 := ⟨lb_M_claims, w_1416, w_1417, w_1418⟩
theorem w_780 : Cond.code m_T_happens.1 m_T_happens.2.1 m_T_happens.2.2.1 m_T_happens.2.2.2 ∈ gtb := gt_sg sg_3 225 (by decide +kernel) (by decide +kernel)
theorem lb_T_happens : gLB m_T_happens 2 := ⟨w_780, w_76, by decide +kernel, by decide +kernel, by decide +kernel⟩
theorem w_777 : (Cond.methodLink "TwoAgreeLaw" (57 : Nat) ({ cls := "TwoAgree", name := "happens", desc := "(II)I" } : MethodName)) ∈ gtb := gt_sg sg_3 222 (by decide +kernel) (by decide +kernel)
theorem w_778 : (Cond.instanceMethod ({ cls := "TwoAgree", name := "happens", desc := "(II)I" } : MethodName)) ∈ gtb := gt_sg sg_3 223 (by decide +kernel) (by decide +kernel)
theorem w_779 : (Cond.selects "TwoAgree" ({ cls := "TwoAgree", name := "happens", desc := "(II)I" } : MethodName) ({ cls := "TwoAgree", name := "happens", desc := "(II)I" } : MethodName)) ∈ gtb := gt_sg sg_3 224 (by decide +kernel) (by decide +kernel)
theorem lv_RL_57 : gLV RL 57 m_T_happens 2 := ⟨lb_T_happens, w_777, w_778, w_779⟩
theorem w_1439 : Cond.code m_M_happens.1 m_M_happens.2.1 m_M_happens.2.2.1 m_M_happens.2.2.2 ∈ gtb := gt_sg sg_6 164 (by decide +kernel) (by decide +kernel)
theorem lb_M_happens : gLB m_M_happens 2 := ⟨w_1439, w_87, by decide +kernel, by decide +kernel, by decide +kernel⟩
theorem w_1436 : (Cond.methodLink "TwoAgreeLaw" (60 : Nat) ({ cls := "TwoAgreeModel", name := "happens", desc := "(II)I" } : MethodName)) ∈ gtb := gt_sg sg_6 161 (by decide +kernel) (by decide +kernel)
theorem w_1437 : (Cond.instanceMethod ({ cls := "TwoAgreeModel", name := "happens", desc := "(II)I" } : MethodName)) ∈ gtb := gt_sg sg_6 162 (by decide +kernel) (by decide +kernel)
theorem w_1438 : (Cond.selects "TwoAgreeModel" ({ cls := "TwoAgreeModel", name := "happens", desc := "(II)I" } : MethodName) ({ cls := "TwoAgreeModel", name := "happens", desc := "(II)I" } : MethodName)) ∈ gtb := gt_sg sg_6 163 (by decide +kernel) (by decide +kernel)
theorem lv_RL_60 : gLV RL 60 m_M_happens 2 := ⟨lb_M_happens, w_1436, w_1437, w_1438⟩
theorem w_785 : Cond.code m_T_pay.1 m_T_pay.2.1 m_T_pay.2.2.1 m_T_pay.2.2.2 ∈ gtb := gt_sg sg_3 230 (by decide +kernel) (by decide +kernel)
theorem lb_T_pay : gLB m_T_pay 2 := ⟨w_785, w_76, by decide +kernel, by decide +kernel, by decide +kernel⟩
theorem w_782 : (Cond.methodLink "TwoAgreeLaw" (61 : Nat) ({ cls := "TwoAgree", name := "pay", desc := "(II)I" } : MethodName)) ∈ gtb := gt_sg sg_3 227 (by decide +kernel) (by decide +kernel)
theorem w_783 : (Cond.instanceMethod ({ cls := "TwoAgree", name := "pay", desc := "(II)I" } : MethodName)) ∈ gtb := gt_sg sg_3 228 (by decide +kernel) (by decide +kernel)
theorem w_784 : (Cond.selects "TwoAgree" ({ cls := "TwoAgree", name := "pay", desc := "(II)I" } : MethodName) ({ cls := "TwoAgree", name := "pay", desc := "(II)I" } : MethodName)) ∈ gtb := gt_sg sg_3 229 (by decide +kernel) (by decide +kernel)
theorem lv_RL_61 : gLV RL 61 m_T_pay 2 := ⟨lb_T_pay, w_782, w_783, w_784⟩
theorem w_1443 : Cond.code m_M_pay.1 m_M_pay.2.1 m_M_pay.2.2.1 m_M_pay.2.2.2 ∈ gtb := gt_sg sg_6 168 (by decide +kernel) (by decide +kernel)
theorem lb_M_pay : gLB m_M_pay 2 := ⟨w_1443, w_87, by decide +kernel, by decide +kernel, by decide +kernel⟩
theorem w_1440 : (Cond.methodLink "TwoAgreeLaw" (64 : Nat) ({ cls := "TwoAgreeModel", name := "pay", desc := "(II)I" } : MethodName)) ∈ gtb := gt_sg sg_6 165 (by decide +kernel) (by decide +kernel)
theorem w_1441 : (Cond.instanceMethod ({ cls := "TwoAgreeModel", name := "pay", desc := "(II)I" } : MethodName)) ∈ gtb := gt_sg sg_6 166 (by decide +kernel) (by decide +kernel)
theorem w_1442 : (Cond.selects "TwoAgreeModel" ({ cls := "TwoAgreeModel", name := "pay", desc := "(II)I" } : MethodName) ({ cls := "TwoAgreeModel", name := "pay", desc := "(II)I" } : MethodName)) ∈ gtb := gt_sg sg_6 167 (by decide +kernel) (by decide +kernel)
theorem lv_RL_64 : gLV RL 64 m_M_pay 2 := ⟨lb_M_pay, w_1440, w_1441, w_1442⟩
theorem w_811 : Cond.code m_T_payBoth.1 m_T_payBoth.2.1 m_T_payBoth.2.2.1 m_T_payBoth.2.2.2 ∈ gtb := gt_sg sg_4 16 (by decide +kernel) (by decide +kernel)
theorem lb_T_payBoth : gLB m_T_payBoth 2 := ⟨w_811, w_76, by decide +kernel, by decide +kernel, by decide +kernel⟩
theorem w_808 : (Cond.methodLink "TwoAgreeLaw" (65 : Nat) ({ cls := "TwoAgree", name := "payBoth", desc := "(II)I" } : MethodName)) ∈ gtb := gt_sg sg_4 13 (by decide +kernel) (by decide +kernel)
theorem w_809 : (Cond.instanceMethod ({ cls := "TwoAgree", name := "payBoth", desc := "(II)I" } : MethodName)) ∈ gtb := gt_sg sg_4 14 (by decide +kernel) (by decide +kernel)
theorem w_810 : (Cond.selects "TwoAgree" ({ cls := "TwoAgree", name := "payBoth", desc := "(II)I" } : MethodName) ({ cls := "TwoAgree", name := "payBoth", desc := "(II)I" } : MethodName)) ∈ gtb := gt_sg sg_4 15 (by decide +kernel) (by decide +kernel)
theorem lv_RL_65 : gLV RL 65 m_T_payBoth 2 := ⟨lb_T_payBoth, w_808, w_809, w_810⟩
theorem w_1452 : Cond.code m_M_payBoth.1 m_M_payBoth.2.1 m_M_payBoth.2.2.1 m_M_payBoth.2.2.2 ∈ gtb := gt_sg sg_6 177 (by decide +kernel) (by decide +kernel)
theorem lb_M_payBoth : gLB m_M_payBoth 2 := ⟨w_1452, w_87, by decide +kernel, by decide +kernel, by decide +kernel⟩
theorem w_1449 : (Cond.methodLink "TwoAgreeLaw" (68 : Nat) ({ cls := "TwoAgreeModel", name := "payBoth", desc := "(II)I" } : MethodName)) ∈ gtb := gt_sg sg_6 174 (by decide +kernel) (by decide +kernel)
theorem w_1450 : (Cond.instanceMethod ({ cls := "TwoAgreeModel", name := "payBoth", desc := "(II)I" } : MethodName)) ∈ gtb := gt_sg sg_6 175 (by decide +kernel) (by decide +kernel)
theorem w_1451 : (Cond.selects "TwoAgreeModel" ({ cls := "TwoAgreeModel", name := "payBoth", desc := "(II)I" } : MethodName) ({ cls := "TwoAgreeModel", name := "payBoth", desc := "(II)I" } : MethodName)) ∈ gtb := gt_sg sg_6 176 (by decide +kernel) (by decide +kernel)
theorem lv_RL_68 : gLV RL 68 m_M_payBoth 2 := ⟨lb_M_payBoth, w_1449, w_1450, w_1451⟩
theorem w_829 : Cond.code m_T_pairs.1 m_T_pairs.2.1 m_T_pairs.2.2.1 m_T_pairs.2.2.2 ∈ gtb := gt_sg sg_4 34 (by decide +kernel) (by decide +kernel)
theorem lb_T_pairs : gLB m_T_pairs 1 := ⟨w_829, w_76, by decide +kernel, by decide +kernel, by decide +kernel⟩
theorem w_826 : (Cond.methodLink "TwoAgreeLaw" (69 : Nat) ({ cls := "TwoAgree", name := "pairs", desc := "(I)I" } : MethodName)) ∈ gtb := gt_sg sg_4 31 (by decide +kernel) (by decide +kernel)
theorem w_827 : (Cond.instanceMethod ({ cls := "TwoAgree", name := "pairs", desc := "(I)I" } : MethodName)) ∈ gtb := gt_sg sg_4 32 (by decide +kernel) (by decide +kernel)
theorem w_828 : (Cond.selects "TwoAgree" ({ cls := "TwoAgree", name := "pairs", desc := "(I)I" } : MethodName) ({ cls := "TwoAgree", name := "pairs", desc := "(I)I" } : MethodName)) ∈ gtb := gt_sg sg_4 33 (by decide +kernel) (by decide +kernel)
theorem lv_RL_69 : gLV RL 69 m_T_pairs 1 := ⟨lb_T_pairs, w_826, w_827, w_828⟩
theorem w_1456 : Cond.code m_M_pairs.1 m_M_pairs.2.1 m_M_pairs.2.2.1 m_M_pairs.2.2.2 ∈ gtb := gt_sg sg_6 181 (by decide +kernel) (by decide +kernel)
theorem lb_M_pairs : gLB m_M_pairs 1 := ⟨w_1456, w_87, by decide +kernel, by decide +kernel, by decide +kernel⟩
theorem w_1453 : (Cond.methodLink "TwoAgreeLaw" (72 : Nat) ({ cls := "TwoAgreeModel", name := "pairs", desc := "(I)I" } : MethodName)) ∈ gtb := gt_sg sg_6 178 (by decide +kernel) (by decide +kernel)
theorem w_1454 : (Cond.instanceMethod ({ cls := "TwoAgreeModel", name := "pairs", desc := "(I)I" } : MethodName)) ∈ gtb := gt_sg sg_6 179 (by decide +kernel) (by decide +kernel)
theorem w_1455 : (Cond.selects "TwoAgreeModel" ({ cls := "TwoAgreeModel", name := "pairs", desc := "(I)I" } : MethodName) ({ cls := "TwoAgreeModel", name := "pairs", desc := "(I)I" } : MethodName)) ∈ gtb := gt_sg sg_6 180 (by decide +kernel) (by decide +kernel)
theorem lv_RL_72 : gLV RL 72 m_M_pairs 1 := ⟨lb_M_pairs, w_1453, w_1454, w_1455⟩
theorem w_861 : Cond.code m_T_strangers.1 m_T_strangers.2.1 m_T_strangers.2.2.1 m_T_strangers.2.2.2 ∈ gtb := gt_sg sg_4 66 (by decide +kernel) (by decide +kernel)
theorem lb_T_strangers : gLB m_T_strangers 1 := ⟨w_861, w_76, by decide +kernel, by decide +kernel, by decide +kernel⟩
theorem w_858 : (Cond.methodLink "TwoAgreeLaw" (73 : Nat) ({ cls := "TwoAgree", name := "strangers", desc := "(I)I" } : MethodName)) ∈ gtb := gt_sg sg_4 63 (by decide +kernel) (by decide +kernel)
theorem w_859 : (Cond.instanceMethod ({ cls := "TwoAgree", name := "strangers", desc := "(I)I" } : MethodName)) ∈ gtb := gt_sg sg_4 64 (by decide +kernel) (by decide +kernel)
theorem w_860 : (Cond.selects "TwoAgree" ({ cls := "TwoAgree", name := "strangers", desc := "(I)I" } : MethodName) ({ cls := "TwoAgree", name := "strangers", desc := "(I)I" } : MethodName)) ∈ gtb := gt_sg sg_4 65 (by decide +kernel) (by decide +kernel)
theorem lv_RL_73 : gLV RL 73 m_T_strangers 1 := ⟨lb_T_strangers, w_858, w_859, w_860⟩
theorem w_1472 : Cond.code m_M_strangers.1 m_M_strangers.2.1 m_M_strangers.2.2.1 m_M_strangers.2.2.2 ∈ gtb := gt_sg sg_6 197 (by decide +kernel) (by decide +kernel)
theorem lb_M_strangers : gLB m_M_strangers 1 := ⟨w_1472, w_87, by decide +kernel, by decide +kernel, by decide +kernel⟩
theorem w_1469 : (Cond.methodLink "TwoAgreeLaw" (76 : Nat) ({ cls := "TwoAgreeModel", name := "strangers", desc := "(I)I" } : MethodName)) ∈ gtb := gt_sg sg_6 194 (by decide +kernel) (by decide +kernel)
theorem w_1470 : (Cond.instanceMethod ({ cls := "TwoAgreeModel", name := "strangers", desc := "(I)I" } : MethodName)) ∈ gtb := gt_sg sg_6 195 (by decide +kernel) (by decide +kernel)
theorem w_1471 : (Cond.selects "TwoAgreeModel" ({ cls := "TwoAgreeModel", name := "strangers", desc := "(I)I" } : MethodName) ({ cls := "TwoAgreeModel", name := "strangers", desc := "(I)I" } : MethodName)) ∈ gtb := gt_sg sg_6 196 (by decide +kernel) (by decide +kernel)
theorem lv_RL_76 : gLV RL 76 m_M_strangers 1 := ⟨lb_M_strangers, w_1469, w_1470, w_1471⟩
theorem w_869 : Cond.code m_T_likely.1 m_T_likely.2.1 m_T_likely.2.2.1 m_T_likely.2.2.2 ∈ gtb := gt_sg sg_4 74 (by decide +kernel) (by decide +kernel)
theorem lb_T_likely : gLB m_T_likely 3 := ⟨w_869, w_76, by decide +kernel, by decide +kernel, by decide +kernel⟩
theorem w_866 : (Cond.methodLink "TwoAgreeLaw" (77 : Nat) ({ cls := "TwoAgree", name := "likely", desc := "(III)J" } : MethodName)) ∈ gtb := gt_sg sg_4 71 (by decide +kernel) (by decide +kernel)
theorem w_867 : (Cond.instanceMethod ({ cls := "TwoAgree", name := "likely", desc := "(III)J" } : MethodName)) ∈ gtb := gt_sg sg_4 72 (by decide +kernel) (by decide +kernel)
theorem w_868 : (Cond.selects "TwoAgree" ({ cls := "TwoAgree", name := "likely", desc := "(III)J" } : MethodName) ({ cls := "TwoAgree", name := "likely", desc := "(III)J" } : MethodName)) ∈ gtb := gt_sg sg_4 73 (by decide +kernel) (by decide +kernel)
theorem lv_RL_77 : gLV RL 77 m_T_likely 3 := ⟨lb_T_likely, w_866, w_867, w_868⟩
theorem w_1476 : Cond.code m_M_likely.1 m_M_likely.2.1 m_M_likely.2.2.1 m_M_likely.2.2.2 ∈ gtb := gt_sg sg_6 201 (by decide +kernel) (by decide +kernel)
theorem lb_M_likely : gLB m_M_likely 3 := ⟨w_1476, w_87, by decide +kernel, by decide +kernel, by decide +kernel⟩
theorem w_1473 : (Cond.methodLink "TwoAgreeLaw" (81 : Nat) ({ cls := "TwoAgreeModel", name := "likely", desc := "(III)J" } : MethodName)) ∈ gtb := gt_sg sg_6 198 (by decide +kernel) (by decide +kernel)
theorem w_1474 : (Cond.instanceMethod ({ cls := "TwoAgreeModel", name := "likely", desc := "(III)J" } : MethodName)) ∈ gtb := gt_sg sg_6 199 (by decide +kernel) (by decide +kernel)
theorem w_1475 : (Cond.selects "TwoAgreeModel" ({ cls := "TwoAgreeModel", name := "likely", desc := "(III)J" } : MethodName) ({ cls := "TwoAgreeModel", name := "likely", desc := "(III)J" } : MethodName)) ∈ gtb := gt_sg sg_6 200 (by decide +kernel) (by decide +kernel)
theorem lv_RL_81 : gLV RL 81 m_M_likely 3 := ⟨lb_M_likely, w_1473, w_1474, w_1475⟩
theorem w_885 : Cond.code m_T_liars.1 m_T_liars.2.1 m_T_liars.2.2.1 m_T_liars.2.2.2 ∈ gtb := gt_sg sg_4 90 (by decide +kernel) (by decide +kernel)
theorem lb_T_liars : gLB m_T_liars 2 := ⟨w_885, w_76, by decide +kernel, by decide +kernel, by decide +kernel⟩
theorem w_882 : (Cond.methodLink "TwoAgreeLaw" (82 : Nat) ({ cls := "TwoAgree", name := "liars", desc := "(II)I" } : MethodName)) ∈ gtb := gt_sg sg_4 87 (by decide +kernel) (by decide +kernel)
theorem w_883 : (Cond.instanceMethod ({ cls := "TwoAgree", name := "liars", desc := "(II)I" } : MethodName)) ∈ gtb := gt_sg sg_4 88 (by decide +kernel) (by decide +kernel)
theorem w_884 : (Cond.selects "TwoAgree" ({ cls := "TwoAgree", name := "liars", desc := "(II)I" } : MethodName) ({ cls := "TwoAgree", name := "liars", desc := "(II)I" } : MethodName)) ∈ gtb := gt_sg sg_4 89 (by decide +kernel) (by decide +kernel)
theorem lv_RL_82 : gLV RL 82 m_T_liars 2 := ⟨lb_T_liars, w_882, w_883, w_884⟩
theorem w_1489 : Cond.code m_M_liars.1 m_M_liars.2.1 m_M_liars.2.2.1 m_M_liars.2.2.2 ∈ gtb := gt_sg sg_6 214 (by decide +kernel) (by decide +kernel)
theorem lb_M_liars : gLB m_M_liars 2 := ⟨w_1489, w_87, by decide +kernel, by decide +kernel, by decide +kernel⟩
theorem w_1486 : (Cond.methodLink "TwoAgreeLaw" (85 : Nat) ({ cls := "TwoAgreeModel", name := "liars", desc := "(II)I" } : MethodName)) ∈ gtb := gt_sg sg_6 211 (by decide +kernel) (by decide +kernel)
theorem w_1487 : (Cond.instanceMethod ({ cls := "TwoAgreeModel", name := "liars", desc := "(II)I" } : MethodName)) ∈ gtb := gt_sg sg_6 212 (by decide +kernel) (by decide +kernel)
theorem w_1488 : (Cond.selects "TwoAgreeModel" ({ cls := "TwoAgreeModel", name := "liars", desc := "(II)I" } : MethodName) ({ cls := "TwoAgreeModel", name := "liars", desc := "(II)I" } : MethodName)) ∈ gtb := gt_sg sg_6 213 (by decide +kernel) (by decide +kernel)
theorem lv_RL_85 : gLV RL 85 m_M_liars 2 := ⟨lb_M_liars, w_1486, w_1487, w_1488⟩
theorem w_893 : Cond.code m_T_days.1 m_T_days.2.1 m_T_days.2.2.1 m_T_days.2.2.2 ∈ gtb := gt_sg sg_4 98 (by decide +kernel) (by decide +kernel)
theorem lb_T_days : gLB m_T_days 2 := ⟨w_893, w_76, by decide +kernel, by decide +kernel, by decide +kernel⟩
theorem w_890 : (Cond.methodLink "TwoAgreeLaw" (86 : Nat) ({ cls := "TwoAgree", name := "days", desc := "(II)I" } : MethodName)) ∈ gtb := gt_sg sg_4 95 (by decide +kernel) (by decide +kernel)
theorem w_891 : (Cond.instanceMethod ({ cls := "TwoAgree", name := "days", desc := "(II)I" } : MethodName)) ∈ gtb := gt_sg sg_4 96 (by decide +kernel) (by decide +kernel)
theorem w_892 : (Cond.selects "TwoAgree" ({ cls := "TwoAgree", name := "days", desc := "(II)I" } : MethodName) ({ cls := "TwoAgree", name := "days", desc := "(II)I" } : MethodName)) ∈ gtb := gt_sg sg_4 97 (by decide +kernel) (by decide +kernel)
theorem lv_RL_86 : gLV RL 86 m_T_days 2 := ⟨lb_T_days, w_890, w_891, w_892⟩
theorem w_1493 : Cond.code m_M_days.1 m_M_days.2.1 m_M_days.2.2.1 m_M_days.2.2.2 ∈ gtb := gt_sg sg_6 218 (by decide +kernel) (by decide +kernel)
theorem lb_M_days : gLB m_M_days 2 := ⟨w_1493, w_87, by decide +kernel, by decide +kernel, by decide +kernel⟩
theorem w_1490 : (Cond.methodLink "TwoAgreeLaw" (89 : Nat) ({ cls := "TwoAgreeModel", name := "days", desc := "(II)I" } : MethodName)) ∈ gtb := gt_sg sg_6 215 (by decide +kernel) (by decide +kernel)
theorem w_1491 : (Cond.instanceMethod ({ cls := "TwoAgreeModel", name := "days", desc := "(II)I" } : MethodName)) ∈ gtb := gt_sg sg_6 216 (by decide +kernel) (by decide +kernel)
theorem w_1492 : (Cond.selects "TwoAgreeModel" ({ cls := "TwoAgreeModel", name := "days", desc := "(II)I" } : MethodName) ({ cls := "TwoAgreeModel", name := "days", desc := "(II)I" } : MethodName)) ∈ gtb := gt_sg sg_6 217 (by decide +kernel) (by decide +kernel)
theorem lv_RL_89 : gLV RL 89 m_M_days 2 := ⟨lb_M_days, w_1490, w_1491, w_1492⟩
theorem w_907 : Cond.code m_T_judge.1 m_T_judge.2.1 m_T_judge.2.2.1 m_T_judge.2.2.2 ∈ gtb := gt_sg sg_4 112 (by decide +kernel) (by decide +kernel)
theorem lb_T_judge : gLB m_T_judge 1 := ⟨w_907, w_76, by decide +kernel, by decide +kernel, by decide +kernel⟩
theorem w_904 : (Cond.methodLink "TwoAgreeLaw" (90 : Nat) ({ cls := "TwoAgree", name := "judge", desc := "(I)I" } : MethodName)) ∈ gtb := gt_sg sg_4 109 (by decide +kernel) (by decide +kernel)
theorem w_905 : (Cond.instanceMethod ({ cls := "TwoAgree", name := "judge", desc := "(I)I" } : MethodName)) ∈ gtb := gt_sg sg_4 110 (by decide +kernel) (by decide +kernel)
theorem w_906 : (Cond.selects "TwoAgree" ({ cls := "TwoAgree", name := "judge", desc := "(I)I" } : MethodName) ({ cls := "TwoAgree", name := "judge", desc := "(I)I" } : MethodName)) ∈ gtb := gt_sg sg_4 111 (by decide +kernel) (by decide +kernel)
theorem lv_RL_90 : gLV RL 90 m_T_judge 1 := ⟨lb_T_judge, w_904, w_905, w_906⟩
theorem w_1508 : Cond.code m_M_judge.1 m_M_judge.2.1 m_M_judge.2.2.1 m_M_judge.2.2.2 ∈ gtb := gt_sg sg_6 233 (by decide +kernel) (by decide +kernel)
theorem lb_M_judge : gLB m_M_judge 1 := ⟨w_1508, w_87, by decide +kernel, by decide +kernel, by decide +kernel⟩
theorem w_1505 : (Cond.methodLink "TwoAgreeLaw" (93 : Nat) ({ cls := "TwoAgreeModel", name := "judge", desc := "(I)I" } : MethodName)) ∈ gtb := gt_sg sg_6 230 (by decide +kernel) (by decide +kernel)
theorem w_1506 : (Cond.instanceMethod ({ cls := "TwoAgreeModel", name := "judge", desc := "(I)I" } : MethodName)) ∈ gtb := gt_sg sg_6 231 (by decide +kernel) (by decide +kernel)
theorem w_1507 : (Cond.selects "TwoAgreeModel" ({ cls := "TwoAgreeModel", name := "judge", desc := "(I)I" } : MethodName) ({ cls := "TwoAgreeModel", name := "judge", desc := "(I)I" } : MethodName)) ∈ gtb := gt_sg sg_6 232 (by decide +kernel) (by decide +kernel)
theorem lv_RL_93 : gLV RL 93 m_M_judge 1 := ⟨lb_M_judge, w_1505, w_1506, w_1507⟩
theorem w_919 : Cond.code m_T_fits.1 m_T_fits.2.1 m_T_fits.2.2.1 m_T_fits.2.2.2 ∈ gtb := gt_sg sg_4 124 (by decide +kernel) (by decide +kernel)
theorem lb_T_fits : gLB m_T_fits 3 := ⟨w_919, w_76, by decide +kernel, by decide +kernel, by decide +kernel⟩
theorem w_916 : (Cond.methodLink "TwoAgreeLaw" (94 : Nat) ({ cls := "TwoAgree", name := "fits", desc := "(III)I" } : MethodName)) ∈ gtb := gt_sg sg_4 121 (by decide +kernel) (by decide +kernel)
theorem w_917 : (Cond.instanceMethod ({ cls := "TwoAgree", name := "fits", desc := "(III)I" } : MethodName)) ∈ gtb := gt_sg sg_4 122 (by decide +kernel) (by decide +kernel)
theorem w_918 : (Cond.selects "TwoAgree" ({ cls := "TwoAgree", name := "fits", desc := "(III)I" } : MethodName) ({ cls := "TwoAgree", name := "fits", desc := "(III)I" } : MethodName)) ∈ gtb := gt_sg sg_4 123 (by decide +kernel) (by decide +kernel)
theorem lv_RL_94 : gLV RL 94 m_T_fits 3 := ⟨lb_T_fits, w_916, w_917, w_918⟩
theorem w_1520 : Cond.code m_M_fits.1 m_M_fits.2.1 m_M_fits.2.2.1 m_M_fits.2.2.2 ∈ gtb := gt_sg sg_7 5 (by decide +kernel) (by decide +kernel)
theorem lb_M_fits : gLB m_M_fits 3 := ⟨w_1520, w_87, by decide +kernel, by decide +kernel, by decide +kernel⟩
theorem w_1517 : (Cond.methodLink "TwoAgreeLaw" (97 : Nat) ({ cls := "TwoAgreeModel", name := "fits", desc := "(III)I" } : MethodName)) ∈ gtb := gt_sg sg_7 2 (by decide +kernel) (by decide +kernel)
theorem w_1518 : (Cond.instanceMethod ({ cls := "TwoAgreeModel", name := "fits", desc := "(III)I" } : MethodName)) ∈ gtb := gt_sg sg_7 3 (by decide +kernel) (by decide +kernel)
theorem w_1519 : (Cond.selects "TwoAgreeModel" ({ cls := "TwoAgreeModel", name := "fits", desc := "(III)I" } : MethodName) ({ cls := "TwoAgreeModel", name := "fits", desc := "(III)I" } : MethodName)) ∈ gtb := gt_sg sg_7 4 (by decide +kernel) (by decide +kernel)
theorem lv_RL_97 : gLV RL 97 m_M_fits 3 := ⟨lb_M_fits, w_1517, w_1518, w_1519⟩
theorem w_929 : Cond.code m_T_byTurns.1 m_T_byTurns.2.1 m_T_byTurns.2.2.1 m_T_byTurns.2.2.2 ∈ gtb := gt_sg sg_4 134 (by decide +kernel) (by decide +kernel)
theorem lb_T_byTurns : gLB m_T_byTurns 3 := ⟨w_929, w_76, by decide +kernel, by decide +kernel, by decide +kernel⟩
theorem w_926 : (Cond.methodLink "TwoAgreeLaw" (98 : Nat) ({ cls := "TwoAgree", name := "byTurns", desc := "(III)I" } : MethodName)) ∈ gtb := gt_sg sg_4 131 (by decide +kernel) (by decide +kernel)
theorem w_927 : (Cond.instanceMethod ({ cls := "TwoAgree", name := "byTurns", desc := "(III)I" } : MethodName)) ∈ gtb := gt_sg sg_4 132 (by decide +kernel) (by decide +kernel)
theorem w_928 : (Cond.selects "TwoAgree" ({ cls := "TwoAgree", name := "byTurns", desc := "(III)I" } : MethodName) ({ cls := "TwoAgree", name := "byTurns", desc := "(III)I" } : MethodName)) ∈ gtb := gt_sg sg_4 133 (by decide +kernel) (by decide +kernel)
theorem lv_RL_98 : gLV RL 98 m_T_byTurns 3 := ⟨lb_T_byTurns, w_926, w_927, w_928⟩
theorem w_1524 : Cond.code m_M_byTurns.1 m_M_byTurns.2.1 m_M_byTurns.2.2.1 m_M_byTurns.2.2.2 ∈ gtb := gt_sg sg_7 9 (by decide +kernel) (by decide +kernel)
theorem lb_M_byTurns : gLB m_M_byTurns 3 := ⟨w_1524, w_87, by decide +kernel, by decide +kernel, by decide +kernel⟩
theorem w_1521 : (Cond.methodLink "TwoAgreeLaw" (101 : Nat) ({ cls := "TwoAgreeModel", name := "byTurns", desc := "(III)I" } : MethodName)) ∈ gtb := gt_sg sg_7 6 (by decide +kernel) (by decide +kernel)
theorem w_1522 : (Cond.instanceMethod ({ cls := "TwoAgreeModel", name := "byTurns", desc := "(III)I" } : MethodName)) ∈ gtb := gt_sg sg_7 7 (by decide +kernel) (by decide +kernel)
theorem w_1523 : (Cond.selects "TwoAgreeModel" ({ cls := "TwoAgreeModel", name := "byTurns", desc := "(III)I" } : MethodName) ({ cls := "TwoAgreeModel", name := "byTurns", desc := "(III)I" } : MethodName)) ∈ gtb := gt_sg sg_7 8 (by decide +kernel) (by decide +kernel)
theorem lv_RL_101 : gLV RL 101 m_M_byTurns 3 := ⟨lb_M_byTurns, w_1521, w_1522, w_1523⟩
theorem w_950 : Cond.code m_T_drawn.1 m_T_drawn.2.1 m_T_drawn.2.2.1 m_T_drawn.2.2.2 ∈ gtb := gt_sg sg_4 155 (by decide +kernel) (by decide +kernel)
theorem lb_T_drawn : gLB m_T_drawn 3 := ⟨w_950, w_76, by decide +kernel, by decide +kernel, by decide +kernel⟩
theorem w_947 : (Cond.methodLink "TwoAgreeLaw" (102 : Nat) ({ cls := "TwoAgree", name := "drawn", desc := "(III)I" } : MethodName)) ∈ gtb := gt_sg sg_4 152 (by decide +kernel) (by decide +kernel)
theorem w_948 : (Cond.instanceMethod ({ cls := "TwoAgree", name := "drawn", desc := "(III)I" } : MethodName)) ∈ gtb := gt_sg sg_4 153 (by decide +kernel) (by decide +kernel)
theorem w_949 : (Cond.selects "TwoAgree" ({ cls := "TwoAgree", name := "drawn", desc := "(III)I" } : MethodName) ({ cls := "TwoAgree", name := "drawn", desc := "(III)I" } : MethodName)) ∈ gtb := gt_sg sg_4 154 (by decide +kernel) (by decide +kernel)
theorem lv_RL_102 : gLV RL 102 m_T_drawn 3 := ⟨lb_T_drawn, w_947, w_948, w_949⟩
theorem w_1532 : Cond.code m_M_drawn.1 m_M_drawn.2.1 m_M_drawn.2.2.1 m_M_drawn.2.2.2 ∈ gtb := gt_sg sg_7 17 (by decide +kernel) (by decide +kernel)
theorem lb_M_drawn : gLB m_M_drawn 3 := ⟨w_1532, w_87, by decide +kernel, by decide +kernel, by decide +kernel⟩
theorem w_1529 : (Cond.methodLink "TwoAgreeLaw" (105 : Nat) ({ cls := "TwoAgreeModel", name := "drawn", desc := "(III)I" } : MethodName)) ∈ gtb := gt_sg sg_7 14 (by decide +kernel) (by decide +kernel)
theorem w_1530 : (Cond.instanceMethod ({ cls := "TwoAgreeModel", name := "drawn", desc := "(III)I" } : MethodName)) ∈ gtb := gt_sg sg_7 15 (by decide +kernel) (by decide +kernel)
theorem w_1531 : (Cond.selects "TwoAgreeModel" ({ cls := "TwoAgreeModel", name := "drawn", desc := "(III)I" } : MethodName) ({ cls := "TwoAgreeModel", name := "drawn", desc := "(III)I" } : MethodName)) ∈ gtb := gt_sg sg_7 16 (by decide +kernel) (by decide +kernel)
theorem lv_RL_105 : gLV RL 105 m_M_drawn 3 := ⟨lb_M_drawn, w_1529, w_1530, w_1531⟩
theorem w_971 : Cond.code m_T_claim.1 m_T_claim.2.1 m_T_claim.2.2.1 m_T_claim.2.2.2 ∈ gtb := gt_sg sg_4 176 (by decide +kernel) (by decide +kernel)
theorem lb_T_claim : gLB m_T_claim 1 := ⟨w_971, w_76, by decide +kernel, by decide +kernel, by decide +kernel⟩
theorem w_968 : (Cond.methodLink "TwoAgreeLaw" (106 : Nat) ({ cls := "TwoAgree", name := "claim", desc := "(I)I" } : MethodName)) ∈ gtb := gt_sg sg_4 173 (by decide +kernel) (by decide +kernel)
theorem w_969 : (Cond.instanceMethod ({ cls := "TwoAgree", name := "claim", desc := "(I)I" } : MethodName)) ∈ gtb := gt_sg sg_4 174 (by decide +kernel) (by decide +kernel)
theorem w_970 : (Cond.selects "TwoAgree" ({ cls := "TwoAgree", name := "claim", desc := "(I)I" } : MethodName) ({ cls := "TwoAgree", name := "claim", desc := "(I)I" } : MethodName)) ∈ gtb := gt_sg sg_4 175 (by decide +kernel) (by decide +kernel)
theorem lv_RL_106 : gLV RL 106 m_T_claim 1 := ⟨lb_T_claim, w_968, w_969, w_970⟩
theorem w_1538 : Cond.code m_M_claim.1 m_M_claim.2.1 m_M_claim.2.2.1 m_M_claim.2.2.2 ∈ gtb := gt_sg sg_7 23 (by decide +kernel) (by decide +kernel)
theorem lb_M_claim : gLB m_M_claim 1 := ⟨w_1538, w_87, by decide +kernel, by decide +kernel, by decide +kernel⟩
theorem w_1535 : (Cond.methodLink "TwoAgreeLaw" (109 : Nat) ({ cls := "TwoAgreeModel", name := "claim", desc := "(I)I" } : MethodName)) ∈ gtb := gt_sg sg_7 20 (by decide +kernel) (by decide +kernel)
theorem w_1536 : (Cond.instanceMethod ({ cls := "TwoAgreeModel", name := "claim", desc := "(I)I" } : MethodName)) ∈ gtb := gt_sg sg_7 21 (by decide +kernel) (by decide +kernel)
theorem w_1537 : (Cond.selects "TwoAgreeModel" ({ cls := "TwoAgreeModel", name := "claim", desc := "(I)I" } : MethodName) ({ cls := "TwoAgreeModel", name := "claim", desc := "(I)I" } : MethodName)) ∈ gtb := gt_sg sg_7 22 (by decide +kernel) (by decide +kernel)
theorem lv_RL_109 : gLV RL 109 m_M_claim 1 := ⟨lb_M_claim, w_1535, w_1536, w_1537⟩
theorem w_980 : Cond.code m_T_ends.1 m_T_ends.2.1 m_T_ends.2.2.1 m_T_ends.2.2.2 ∈ gtb := gt_sg sg_4 185 (by decide +kernel) (by decide +kernel)
theorem lb_T_ends : gLB m_T_ends 0 := ⟨w_980, w_76, by decide +kernel, by decide +kernel, by decide +kernel⟩
theorem w_977 : (Cond.methodLink "TwoAgreeLaw" (110 : Nat) ({ cls := "TwoAgree", name := "ends", desc := "()I" } : MethodName)) ∈ gtb := gt_sg sg_4 182 (by decide +kernel) (by decide +kernel)
theorem w_978 : (Cond.instanceMethod ({ cls := "TwoAgree", name := "ends", desc := "()I" } : MethodName)) ∈ gtb := gt_sg sg_4 183 (by decide +kernel) (by decide +kernel)
theorem w_979 : (Cond.selects "TwoAgree" ({ cls := "TwoAgree", name := "ends", desc := "()I" } : MethodName) ({ cls := "TwoAgree", name := "ends", desc := "()I" } : MethodName)) ∈ gtb := gt_sg sg_4 184 (by decide +kernel) (by decide +kernel)
theorem lv_RL_110 : gLV RL 110 m_T_ends 0 := ⟨lb_T_ends, w_977, w_978, w_979⟩
theorem w_1542 : Cond.code m_M_ends.1 m_M_ends.2.1 m_M_ends.2.2.1 m_M_ends.2.2.2 ∈ gtb := gt_sg sg_7 27 (by decide +kernel) (by decide +kernel)
theorem lb_M_ends : gLB m_M_ends 0 := ⟨w_1542, w_87, by decide +kernel, by decide +kernel, by decide +kernel⟩
theorem w_1539 : (Cond.methodLink "TwoAgreeLaw" (113 : Nat) ({ cls := "TwoAgreeModel", name := "ends", desc := "()I" } : MethodName)) ∈ gtb := gt_sg sg_7 24 (by decide +kernel) (by decide +kernel)
theorem w_1540 : (Cond.instanceMethod ({ cls := "TwoAgreeModel", name := "ends", desc := "()I" } : MethodName)) ∈ gtb := gt_sg sg_7 25 (by decide +kernel) (by decide +kernel)
theorem w_1541 : (Cond.selects "TwoAgreeModel" ({ cls := "TwoAgreeModel", name := "ends", desc := "()I" } : MethodName) ({ cls := "TwoAgreeModel", name := "ends", desc := "()I" } : MethodName)) ∈ gtb := gt_sg sg_7 26 (by decide +kernel) (by decide +kernel)
theorem lv_RL_113 : gLV RL 113 m_M_ends 0 := ⟨lb_M_ends, w_1539, w_1540, w_1541⟩
theorem w_988 : Cond.code m_T_marry.1 m_T_marry.2.1 m_T_marry.2.2.1 m_T_marry.2.2.2 ∈ gtb := gt_sg sg_4 193 (by decide +kernel) (by decide +kernel)
theorem lb_T_marry : gLB m_T_marry 1 := ⟨w_988, w_76, by decide +kernel, by decide +kernel, by decide +kernel⟩
theorem w_985 : (Cond.methodLink "TwoAgreeLaw" (114 : Nat) ({ cls := "TwoAgree", name := "marry", desc := "(I)I" } : MethodName)) ∈ gtb := gt_sg sg_4 190 (by decide +kernel) (by decide +kernel)
theorem w_986 : (Cond.instanceMethod ({ cls := "TwoAgree", name := "marry", desc := "(I)I" } : MethodName)) ∈ gtb := gt_sg sg_4 191 (by decide +kernel) (by decide +kernel)
theorem w_987 : (Cond.selects "TwoAgree" ({ cls := "TwoAgree", name := "marry", desc := "(I)I" } : MethodName) ({ cls := "TwoAgree", name := "marry", desc := "(I)I" } : MethodName)) ∈ gtb := gt_sg sg_4 192 (by decide +kernel) (by decide +kernel)
theorem lv_RL_114 : gLV RL 114 m_T_marry 1 := ⟨lb_T_marry, w_985, w_986, w_987⟩
theorem w_1546 : Cond.code m_M_marry.1 m_M_marry.2.1 m_M_marry.2.2.1 m_M_marry.2.2.2 ∈ gtb := gt_sg sg_7 31 (by decide +kernel) (by decide +kernel)
theorem lb_M_marry : gLB m_M_marry 1 := ⟨w_1546, w_87, by decide +kernel, by decide +kernel, by decide +kernel⟩
theorem w_1543 : (Cond.methodLink "TwoAgreeLaw" (117 : Nat) ({ cls := "TwoAgreeModel", name := "marry", desc := "(I)I" } : MethodName)) ∈ gtb := gt_sg sg_7 28 (by decide +kernel) (by decide +kernel)
theorem w_1544 : (Cond.instanceMethod ({ cls := "TwoAgreeModel", name := "marry", desc := "(I)I" } : MethodName)) ∈ gtb := gt_sg sg_7 29 (by decide +kernel) (by decide +kernel)
theorem w_1545 : (Cond.selects "TwoAgreeModel" ({ cls := "TwoAgreeModel", name := "marry", desc := "(I)I" } : MethodName) ({ cls := "TwoAgreeModel", name := "marry", desc := "(I)I" } : MethodName)) ∈ gtb := gt_sg sg_7 30 (by decide +kernel) (by decide +kernel)
theorem lv_RL_117 : gLV RL 117 m_M_marry 1 := ⟨lb_M_marry, w_1543, w_1544, w_1545⟩
theorem w_1001 : Cond.code m_T_paid.1 m_T_paid.2.1 m_T_paid.2.2.1 m_T_paid.2.2.2 ∈ gtb := gt_sg sg_4 206 (by decide +kernel) (by decide +kernel)
theorem lb_T_paid : gLB m_T_paid 2 := ⟨w_1001, w_76, by decide +kernel, by decide +kernel, by decide +kernel⟩
theorem w_998 : (Cond.methodLink "TwoAgreeLaw" (118 : Nat) ({ cls := "TwoAgree", name := "paid", desc := "(II)I" } : MethodName)) ∈ gtb := gt_sg sg_4 203 (by decide +kernel) (by decide +kernel)
theorem w_999 : (Cond.instanceMethod ({ cls := "TwoAgree", name := "paid", desc := "(II)I" } : MethodName)) ∈ gtb := gt_sg sg_4 204 (by decide +kernel) (by decide +kernel)
theorem w_1000 : (Cond.selects "TwoAgree" ({ cls := "TwoAgree", name := "paid", desc := "(II)I" } : MethodName) ({ cls := "TwoAgree", name := "paid", desc := "(II)I" } : MethodName)) ∈ gtb := gt_sg sg_4 205 (by decide +kernel) (by decide +kernel)
theorem lv_RL_118 : gLV RL 118 m_T_paid 2 := ⟨lb_T_paid, w_998, w_999, w_1000⟩
theorem w_1550 : Cond.code m_M_paid.1 m_M_paid.2.1 m_M_paid.2.2.1 m_M_paid.2.2.2 ∈ gtb := gt_sg sg_7 35 (by decide +kernel) (by decide +kernel)
theorem lb_M_paid : gLB m_M_paid 2 := ⟨w_1550, w_87, by decide +kernel, by decide +kernel, by decide +kernel⟩
theorem w_1547 : (Cond.methodLink "TwoAgreeLaw" (121 : Nat) ({ cls := "TwoAgreeModel", name := "paid", desc := "(II)I" } : MethodName)) ∈ gtb := gt_sg sg_7 32 (by decide +kernel) (by decide +kernel)
theorem w_1548 : (Cond.instanceMethod ({ cls := "TwoAgreeModel", name := "paid", desc := "(II)I" } : MethodName)) ∈ gtb := gt_sg sg_7 33 (by decide +kernel) (by decide +kernel)
theorem w_1549 : (Cond.selects "TwoAgreeModel" ({ cls := "TwoAgreeModel", name := "paid", desc := "(II)I" } : MethodName) ({ cls := "TwoAgreeModel", name := "paid", desc := "(II)I" } : MethodName)) ∈ gtb := gt_sg sg_7 34 (by decide +kernel) (by decide +kernel)
theorem lv_RL_121 : gLV RL 121 m_M_paid 2 := ⟨lb_M_paid, w_1547, w_1548, w_1549⟩
theorem w_1005 : Cond.code m_T_led.1 m_T_led.2.1 m_T_led.2.2.1 m_T_led.2.2.2 ∈ gtb := gt_sg sg_4 210 (by decide +kernel) (by decide +kernel)
theorem lb_T_led : gLB m_T_led 1 := ⟨w_1005, w_76, by decide +kernel, by decide +kernel, by decide +kernel⟩
theorem w_1002 : (Cond.methodLink "TwoAgreeLaw" (122 : Nat) ({ cls := "TwoAgree", name := "led", desc := "(I)I" } : MethodName)) ∈ gtb := gt_sg sg_4 207 (by decide +kernel) (by decide +kernel)
theorem w_1003 : (Cond.instanceMethod ({ cls := "TwoAgree", name := "led", desc := "(I)I" } : MethodName)) ∈ gtb := gt_sg sg_4 208 (by decide +kernel) (by decide +kernel)
theorem w_1004 : (Cond.selects "TwoAgree" ({ cls := "TwoAgree", name := "led", desc := "(I)I" } : MethodName) ({ cls := "TwoAgree", name := "led", desc := "(I)I" } : MethodName)) ∈ gtb := gt_sg sg_4 209 (by decide +kernel) (by decide +kernel)
theorem lv_RL_122 : gLV RL 122 m_T_led 1 := ⟨lb_T_led, w_1002, w_1003, w_1004⟩
theorem w_1554 : Cond.code m_M_led.1 m_M_led.2.1 m_M_led.2.2.1 m_M_led.2.2.2 ∈ gtb := gt_sg sg_7 39 (by decide +kernel) (by decide +kernel)
theorem lb_M_led : gLB m_M_led 1 := ⟨w_1554, w_87, by decide +kernel, by decide +kernel, by decide +kernel⟩
theorem w_1551 : (Cond.methodLink "TwoAgreeLaw" (125 : Nat) ({ cls := "TwoAgreeModel", name := "led", desc := "(I)I" } : MethodName)) ∈ gtb := gt_sg sg_7 36 (by decide +kernel) (by decide +kernel)
theorem w_1552 : (Cond.instanceMethod ({ cls := "TwoAgreeModel", name := "led", desc := "(I)I" } : MethodName)) ∈ gtb := gt_sg sg_7 37 (by decide +kernel) (by decide +kernel)
theorem w_1553 : (Cond.selects "TwoAgreeModel" ({ cls := "TwoAgreeModel", name := "led", desc := "(I)I" } : MethodName) ({ cls := "TwoAgreeModel", name := "led", desc := "(I)I" } : MethodName)) ∈ gtb := gt_sg sg_7 38 (by decide +kernel) (by decide +kernel)
theorem lv_RL_125 : gLV RL 125 m_M_led 1 := ⟨lb_M_led, w_1551, w_1552, w_1553⟩
theorem w_1009 : Cond.code m_T_image.1 m_T_image.2.1 m_T_image.2.2.1 m_T_image.2.2.2 ∈ gtb := gt_sg sg_4 214 (by decide +kernel) (by decide +kernel)
theorem lb_T_image : gLB m_T_image 0 := ⟨w_1009, w_76, by decide +kernel, by decide +kernel, by decide +kernel⟩
theorem w_1006 : (Cond.methodLink "TwoAgreeLaw" (126 : Nat) ({ cls := "TwoAgree", name := "image", desc := "()I" } : MethodName)) ∈ gtb := gt_sg sg_4 211 (by decide +kernel) (by decide +kernel)
theorem w_1007 : (Cond.instanceMethod ({ cls := "TwoAgree", name := "image", desc := "()I" } : MethodName)) ∈ gtb := gt_sg sg_4 212 (by decide +kernel) (by decide +kernel)
theorem w_1008 : (Cond.selects "TwoAgree" ({ cls := "TwoAgree", name := "image", desc := "()I" } : MethodName) ({ cls := "TwoAgree", name := "image", desc := "()I" } : MethodName)) ∈ gtb := gt_sg sg_4 213 (by decide +kernel) (by decide +kernel)
theorem lv_RL_126 : gLV RL 126 m_T_image 0 := ⟨lb_T_image, w_1006, w_1007, w_1008⟩
theorem w_1558 : Cond.code m_M_image.1 m_M_image.2.1 m_M_image.2.2.1 m_M_image.2.2.2 ∈ gtb := gt_sg sg_7 43 (by decide +kernel) (by decide +kernel)
theorem lb_M_image : gLB m_M_image 0 := ⟨w_1558, w_87, by decide +kernel, by decide +kernel, by decide +kernel⟩
theorem w_1555 : (Cond.methodLink "TwoAgreeLaw" (129 : Nat) ({ cls := "TwoAgreeModel", name := "image", desc := "()I" } : MethodName)) ∈ gtb := gt_sg sg_7 40 (by decide +kernel) (by decide +kernel)
theorem w_1556 : (Cond.instanceMethod ({ cls := "TwoAgreeModel", name := "image", desc := "()I" } : MethodName)) ∈ gtb := gt_sg sg_7 41 (by decide +kernel) (by decide +kernel)
theorem w_1557 : (Cond.selects "TwoAgreeModel" ({ cls := "TwoAgreeModel", name := "image", desc := "()I" } : MethodName) ({ cls := "TwoAgreeModel", name := "image", desc := "()I" } : MethodName)) ∈ gtb := gt_sg sg_7 42 (by decide +kernel) (by decide +kernel)
theorem lv_RL_129 : gLV RL 129 m_M_image 0 := ⟨lb_M_image, w_1555, w_1556, w_1557⟩
theorem w_1023 : Cond.code m_T_back.1 m_T_back.2.1 m_T_back.2.2.1 m_T_back.2.2.2 ∈ gtb := gt_sg sg_4 228 (by decide +kernel) (by decide +kernel)
theorem lb_T_back : gLB m_T_back 0 := ⟨w_1023, w_76, by decide +kernel, by decide +kernel, by decide +kernel⟩
theorem w_1020 : (Cond.methodLink "TwoAgreeLaw" (130 : Nat) ({ cls := "TwoAgree", name := "back", desc := "()I" } : MethodName)) ∈ gtb := gt_sg sg_4 225 (by decide +kernel) (by decide +kernel)
theorem w_1021 : (Cond.instanceMethod ({ cls := "TwoAgree", name := "back", desc := "()I" } : MethodName)) ∈ gtb := gt_sg sg_4 226 (by decide +kernel) (by decide +kernel)
theorem w_1022 : (Cond.selects "TwoAgree" ({ cls := "TwoAgree", name := "back", desc := "()I" } : MethodName) ({ cls := "TwoAgree", name := "back", desc := "()I" } : MethodName)) ∈ gtb := gt_sg sg_4 227 (by decide +kernel) (by decide +kernel)
theorem lv_RL_130 : gLV RL 130 m_T_back 0 := ⟨lb_T_back, w_1020, w_1021, w_1022⟩
theorem w_1562 : Cond.code m_M_back.1 m_M_back.2.1 m_M_back.2.2.1 m_M_back.2.2.2 ∈ gtb := gt_sg sg_7 47 (by decide +kernel) (by decide +kernel)
theorem lb_M_back : gLB m_M_back 0 := ⟨w_1562, w_87, by decide +kernel, by decide +kernel, by decide +kernel⟩
theorem w_1559 : (Cond.methodLink "TwoAgreeLaw" (133 : Nat) ({ cls := "TwoAgreeModel", name := "back", desc := "()I" } : MethodName)) ∈ gtb := gt_sg sg_7 44 (by decide +kernel) (by decide +kernel)
theorem w_1560 : (Cond.instanceMethod ({ cls := "TwoAgreeModel", name := "back", desc := "()I" } : MethodName)) ∈ gtb := gt_sg sg_7 45 (by decide +kernel) (by decide +kernel)
theorem w_1561 : (Cond.selects "TwoAgreeModel" ({ cls := "TwoAgreeModel", name := "back", desc := "()I" } : MethodName) ({ cls := "TwoAgreeModel", name := "back", desc := "()I" } : MethodName)) ∈ gtb := gt_sg sg_7 46 (by decide +kernel) (by decide +kernel)
theorem lv_RL_133 : gLV RL 133 m_M_back 0 := ⟨lb_M_back, w_1559, w_1560, w_1561⟩
theorem w_1031 : Cond.code m_T_undo.1 m_T_undo.2.1 m_T_undo.2.2.1 m_T_undo.2.2.2 ∈ gtb := gt_sg sg_4 236 (by decide +kernel) (by decide +kernel)
theorem lb_T_undo : gLB m_T_undo 0 := ⟨w_1031, w_76, by decide +kernel, by decide +kernel, by decide +kernel⟩
theorem w_1028 : (Cond.methodLink "TwoAgreeLaw" (134 : Nat) ({ cls := "TwoAgree", name := "undo", desc := "()I" } : MethodName)) ∈ gtb := gt_sg sg_4 233 (by decide +kernel) (by decide +kernel)
theorem w_1029 : (Cond.instanceMethod ({ cls := "TwoAgree", name := "undo", desc := "()I" } : MethodName)) ∈ gtb := gt_sg sg_4 234 (by decide +kernel) (by decide +kernel)
theorem w_1030 : (Cond.selects "TwoAgree" ({ cls := "TwoAgree", name := "undo", desc := "()I" } : MethodName) ({ cls := "TwoAgree", name := "undo", desc := "()I" } : MethodName)) ∈ gtb := gt_sg sg_4 235 (by decide +kernel) (by decide +kernel)
theorem lv_RL_134 : gLV RL 134 m_T_undo 0 := ⟨lb_T_undo, w_1028, w_1029, w_1030⟩
theorem w_1259 : Cond.code m_M_undo.1 m_M_undo.2.1 m_M_undo.2.2.1 m_M_undo.2.2.2 ∈ gtb := gt_sg sg_5 224 (by decide +kernel) (by decide +kernel)
theorem lb_M_undo : gLB m_M_undo 0 := ⟨w_1259, w_87, by decide +kernel, by decide +kernel, by decide +kernel⟩
theorem w_1256 : (Cond.methodLink "TwoAgreeLaw" (137 : Nat) ({ cls := "TwoAgreeModel", name := "undo", desc := "()I" } : MethodName)) ∈ gtb := gt_sg sg_5 221 (by decide +kernel) (by decide +kernel)
theorem w_1257 : (Cond.instanceMethod ({ cls := "TwoAgreeModel", name := "undo", desc := "()I" } : MethodName)) ∈ gtb := gt_sg sg_5 222 (by decide +kernel) (by decide +kernel)
theorem w_1258 : (Cond.selects "TwoAgreeModel" ({ cls := "TwoAgreeModel", name := "undo", desc := "()I" } : MethodName) ({ cls := "TwoAgreeModel", name := "undo", desc := "()I" } : MethodName)) ∈ gtb := gt_sg sg_5 223 (by decide +kernel) (by decide +kernel)
theorem lv_RL_137 : gLV RL 137 m_M_undo 0 := ⟨lb_M_undo, w_1256, w_1257, w_1258⟩
theorem w_1040 : Cond.code m_T_redo.1 m_T_redo.2.1 m_T_redo.2.2.1 m_T_redo.2.2.2 ∈ gtb := gt_sg sg_5 5 (by decide +kernel) (by decide +kernel)
theorem lb_T_redo : gLB m_T_redo 0 := ⟨w_1040, w_76, by decide +kernel, by decide +kernel, by decide +kernel⟩
theorem w_1037 : (Cond.methodLink "TwoAgreeLaw" (138 : Nat) ({ cls := "TwoAgree", name := "redo", desc := "()I" } : MethodName)) ∈ gtb := gt_sg sg_5 2 (by decide +kernel) (by decide +kernel)
theorem w_1038 : (Cond.instanceMethod ({ cls := "TwoAgree", name := "redo", desc := "()I" } : MethodName)) ∈ gtb := gt_sg sg_5 3 (by decide +kernel) (by decide +kernel)
theorem w_1039 : (Cond.selects "TwoAgree" ({ cls := "TwoAgree", name := "redo", desc := "()I" } : MethodName) ({ cls := "TwoAgree", name := "redo", desc := "()I" } : MethodName)) ∈ gtb := gt_sg sg_5 4 (by decide +kernel) (by decide +kernel)
theorem lv_RL_138 : gLV RL 138 m_T_redo 0 := ⟨lb_T_redo, w_1037, w_1038, w_1039⟩
theorem w_1263 : Cond.code m_M_redo.1 m_M_redo.2.1 m_M_redo.2.2.1 m_M_redo.2.2.2 ∈ gtb := gt_sg sg_5 228 (by decide +kernel) (by decide +kernel)
theorem lb_M_redo : gLB m_M_redo 0 := ⟨w_1263, w_87, by decide +kernel, by decide +kernel, by decide +kernel⟩
theorem w_1260 : (Cond.methodLink "TwoAgreeLaw" (141 : Nat) ({ cls := "TwoAgreeModel", name := "redo", desc := "()I" } : MethodName)) ∈ gtb := gt_sg sg_5 225 (by decide +kernel) (by decide +kernel)
theorem w_1261 : (Cond.instanceMethod ({ cls := "TwoAgreeModel", name := "redo", desc := "()I" } : MethodName)) ∈ gtb := gt_sg sg_5 226 (by decide +kernel) (by decide +kernel)
theorem w_1262 : (Cond.selects "TwoAgreeModel" ({ cls := "TwoAgreeModel", name := "redo", desc := "()I" } : MethodName) ({ cls := "TwoAgreeModel", name := "redo", desc := "()I" } : MethodName)) ∈ gtb := gt_sg sg_5 227 (by decide +kernel) (by decide +kernel)
theorem lv_RL_141 : gLV RL 141 m_M_redo 0 := ⟨lb_M_redo, w_1260, w_1261, w_1262⟩
theorem w_1048 : Cond.code m_T_body.1 m_T_body.2.1 m_T_body.2.2.1 m_T_body.2.2.2 ∈ gtb := gt_sg sg_5 13 (by decide +kernel) (by decide +kernel)
theorem lb_T_body : gLB m_T_body 1 := ⟨w_1048, w_76, by decide +kernel, by decide +kernel, by decide +kernel⟩
theorem w_1045 : (Cond.methodLink "TwoAgreeLaw" (142 : Nat) ({ cls := "TwoAgree", name := "body", desc := "(I)I" } : MethodName)) ∈ gtb := gt_sg sg_5 10 (by decide +kernel) (by decide +kernel)
theorem w_1046 : (Cond.instanceMethod ({ cls := "TwoAgree", name := "body", desc := "(I)I" } : MethodName)) ∈ gtb := gt_sg sg_5 11 (by decide +kernel) (by decide +kernel)
theorem w_1047 : (Cond.selects "TwoAgree" ({ cls := "TwoAgree", name := "body", desc := "(I)I" } : MethodName) ({ cls := "TwoAgree", name := "body", desc := "(I)I" } : MethodName)) ∈ gtb := gt_sg sg_5 12 (by decide +kernel) (by decide +kernel)
theorem lv_RL_142 : gLV RL 142 m_T_body 1 := ⟨lb_T_body, w_1045, w_1046, w_1047⟩
theorem w_1566 : Cond.code m_M_body.1 m_M_body.2.1 m_M_body.2.2.1 m_M_body.2.2.2 ∈ gtb := gt_sg sg_7 51 (by decide +kernel) (by decide +kernel)
theorem lb_M_body : gLB m_M_body 1 := ⟨w_1566, w_87, by decide +kernel, by decide +kernel, by decide +kernel⟩
theorem w_1563 : (Cond.methodLink "TwoAgreeLaw" (145 : Nat) ({ cls := "TwoAgreeModel", name := "body", desc := "(I)I" } : MethodName)) ∈ gtb := gt_sg sg_7 48 (by decide +kernel) (by decide +kernel)
theorem w_1564 : (Cond.instanceMethod ({ cls := "TwoAgreeModel", name := "body", desc := "(I)I" } : MethodName)) ∈ gtb := gt_sg sg_7 49 (by decide +kernel) (by decide +kernel)
theorem w_1565 : (Cond.selects "TwoAgreeModel" ({ cls := "TwoAgreeModel", name := "body", desc := "(I)I" } : MethodName) ({ cls := "TwoAgreeModel", name := "body", desc := "(I)I" } : MethodName)) ∈ gtb := gt_sg sg_7 50 (by decide +kernel) (by decide +kernel)
theorem lv_RL_145 : gLV RL 145 m_M_body 1 := ⟨lb_M_body, w_1563, w_1564, w_1565⟩
theorem w_1056 : Cond.code m_T_act.1 m_T_act.2.1 m_T_act.2.2.1 m_T_act.2.2.2 ∈ gtb := gt_sg sg_5 21 (by decide +kernel) (by decide +kernel)
theorem lb_T_act : gLB m_T_act 3 := ⟨w_1056, w_76, by decide +kernel, by decide +kernel, by decide +kernel⟩
theorem w_1053 : (Cond.methodLink "TwoAgreeLaw" (146 : Nat) ({ cls := "TwoAgree", name := "act", desc := "(III)I" } : MethodName)) ∈ gtb := gt_sg sg_5 18 (by decide +kernel) (by decide +kernel)
theorem w_1054 : (Cond.instanceMethod ({ cls := "TwoAgree", name := "act", desc := "(III)I" } : MethodName)) ∈ gtb := gt_sg sg_5 19 (by decide +kernel) (by decide +kernel)
theorem w_1055 : (Cond.selects "TwoAgree" ({ cls := "TwoAgree", name := "act", desc := "(III)I" } : MethodName) ({ cls := "TwoAgree", name := "act", desc := "(III)I" } : MethodName)) ∈ gtb := gt_sg sg_5 20 (by decide +kernel) (by decide +kernel)
theorem lv_RL_146 : gLV RL 146 m_T_act 3 := ⟨lb_T_act, w_1053, w_1054, w_1055⟩
theorem w_1570 : Cond.code m_M_act.1 m_M_act.2.1 m_M_act.2.2.1 m_M_act.2.2.2 ∈ gtb := gt_sg sg_7 55 (by decide +kernel) (by decide +kernel)
theorem lb_M_act : gLB m_M_act 3 := ⟨w_1570, w_87, by decide +kernel, by decide +kernel, by decide +kernel⟩
theorem w_1567 : (Cond.methodLink "TwoAgreeLaw" (149 : Nat) ({ cls := "TwoAgreeModel", name := "act", desc := "(III)I" } : MethodName)) ∈ gtb := gt_sg sg_7 52 (by decide +kernel) (by decide +kernel)
theorem w_1568 : (Cond.instanceMethod ({ cls := "TwoAgreeModel", name := "act", desc := "(III)I" } : MethodName)) ∈ gtb := gt_sg sg_7 53 (by decide +kernel) (by decide +kernel)
theorem w_1569 : (Cond.selects "TwoAgreeModel" ({ cls := "TwoAgreeModel", name := "act", desc := "(III)I" } : MethodName) ({ cls := "TwoAgreeModel", name := "act", desc := "(III)I" } : MethodName)) ∈ gtb := gt_sg sg_7 54 (by decide +kernel) (by decide +kernel)
theorem lv_RL_149 : gLV RL 149 m_M_act 3 := ⟨lb_M_act, w_1567, w_1568, w_1569⟩
theorem w_1080 : Cond.code m_T_trace.1 m_T_trace.2.1 m_T_trace.2.2.1 m_T_trace.2.2.2 ∈ gtb := gt_sg sg_5 45 (by decide +kernel) (by decide +kernel)
theorem lb_T_trace : gLB m_T_trace 1 := ⟨w_1080, w_76, by decide +kernel, by decide +kernel, by decide +kernel⟩
theorem w_1077 : (Cond.methodLink "TwoAgreeLaw" (150 : Nat) ({ cls := "TwoAgree", name := "trace", desc := "(I)I" } : MethodName)) ∈ gtb := gt_sg sg_5 42 (by decide +kernel) (by decide +kernel)
theorem w_1078 : (Cond.instanceMethod ({ cls := "TwoAgree", name := "trace", desc := "(I)I" } : MethodName)) ∈ gtb := gt_sg sg_5 43 (by decide +kernel) (by decide +kernel)
theorem w_1079 : (Cond.selects "TwoAgree" ({ cls := "TwoAgree", name := "trace", desc := "(I)I" } : MethodName) ({ cls := "TwoAgree", name := "trace", desc := "(I)I" } : MethodName)) ∈ gtb := gt_sg sg_5 44 (by decide +kernel) (by decide +kernel)
theorem lv_RL_150 : gLV RL 150 m_T_trace 1 := ⟨lb_T_trace, w_1077, w_1078, w_1079⟩
theorem w_1598 : Cond.code m_M_trace.1 m_M_trace.2.1 m_M_trace.2.2.1 m_M_trace.2.2.2 ∈ gtb := gt_sg sg_7 83 (by decide +kernel) (by decide +kernel)
theorem lb_M_trace : gLB m_M_trace 1 := ⟨w_1598, w_87, by decide +kernel, by decide +kernel, by decide +kernel⟩
theorem w_1595 : (Cond.methodLink "TwoAgreeLaw" (153 : Nat) ({ cls := "TwoAgreeModel", name := "trace", desc := "(I)I" } : MethodName)) ∈ gtb := gt_sg sg_7 80 (by decide +kernel) (by decide +kernel)
theorem w_1596 : (Cond.instanceMethod ({ cls := "TwoAgreeModel", name := "trace", desc := "(I)I" } : MethodName)) ∈ gtb := gt_sg sg_7 81 (by decide +kernel) (by decide +kernel)
theorem w_1597 : (Cond.selects "TwoAgreeModel" ({ cls := "TwoAgreeModel", name := "trace", desc := "(I)I" } : MethodName) ({ cls := "TwoAgreeModel", name := "trace", desc := "(I)I" } : MethodName)) ∈ gtb := gt_sg sg_7 82 (by decide +kernel) (by decide +kernel)
theorem lv_RL_153 : gLV RL 153 m_M_trace 1 := ⟨lb_M_trace, w_1595, w_1596, w_1597⟩
theorem w_1084 : Cond.code m_T_keep.1 m_T_keep.2.1 m_T_keep.2.2.1 m_T_keep.2.2.2 ∈ gtb := gt_sg sg_5 49 (by decide +kernel) (by decide +kernel)
theorem lb_T_keep : gLB m_T_keep 2 := ⟨w_1084, w_76, by decide +kernel, by decide +kernel, by decide +kernel⟩
theorem w_1081 : (Cond.methodLink "TwoAgreeLaw" (154 : Nat) ({ cls := "TwoAgree", name := "keep", desc := "(II)I" } : MethodName)) ∈ gtb := gt_sg sg_5 46 (by decide +kernel) (by decide +kernel)
theorem w_1082 : (Cond.instanceMethod ({ cls := "TwoAgree", name := "keep", desc := "(II)I" } : MethodName)) ∈ gtb := gt_sg sg_5 47 (by decide +kernel) (by decide +kernel)
theorem w_1083 : (Cond.selects "TwoAgree" ({ cls := "TwoAgree", name := "keep", desc := "(II)I" } : MethodName) ({ cls := "TwoAgree", name := "keep", desc := "(II)I" } : MethodName)) ∈ gtb := gt_sg sg_5 48 (by decide +kernel) (by decide +kernel)
theorem lv_RL_154 : gLV RL 154 m_T_keep 2 := ⟨lb_T_keep, w_1081, w_1082, w_1083⟩
theorem w_1602 : Cond.code m_M_keep.1 m_M_keep.2.1 m_M_keep.2.2.1 m_M_keep.2.2.2 ∈ gtb := gt_sg sg_7 87 (by decide +kernel) (by decide +kernel)
theorem lb_M_keep : gLB m_M_keep 2 := ⟨w_1602, w_87, by decide +kernel, by decide +kernel, by decide +kernel⟩
theorem w_1599 : (Cond.methodLink "TwoAgreeLaw" (157 : Nat) ({ cls := "TwoAgreeModel", name := "keep", desc := "(II)I" } : MethodName)) ∈ gtb := gt_sg sg_7 84 (by decide +kernel) (by decide +kernel)
theorem w_1600 : (Cond.instanceMethod ({ cls := "TwoAgreeModel", name := "keep", desc := "(II)I" } : MethodName)) ∈ gtb := gt_sg sg_7 85 (by decide +kernel) (by decide +kernel)
theorem w_1601 : (Cond.selects "TwoAgreeModel" ({ cls := "TwoAgreeModel", name := "keep", desc := "(II)I" } : MethodName) ({ cls := "TwoAgreeModel", name := "keep", desc := "(II)I" } : MethodName)) ∈ gtb := gt_sg sg_7 86 (by decide +kernel) (by decide +kernel)
theorem lv_RL_157 : gLV RL 157 m_M_keep 2 := ⟨lb_M_keep, w_1599, w_1600, w_1601⟩
theorem w_1092 : Cond.code m_T_row.1 m_T_row.2.1 m_T_row.2.2.1 m_T_row.2.2.2 ∈ gtb := gt_sg sg_5 57 (by decide +kernel) (by decide +kernel)
theorem lb_T_row : gLB m_T_row 3 := ⟨w_1092, w_76, by decide +kernel, by decide +kernel, by decide +kernel⟩
theorem w_1089 : (Cond.methodLink "TwoAgreeLaw" (158 : Nat) ({ cls := "TwoAgree", name := "row", desc := "(III)I" } : MethodName)) ∈ gtb := gt_sg sg_5 54 (by decide +kernel) (by decide +kernel)
theorem w_1090 : (Cond.instanceMethod ({ cls := "TwoAgree", name := "row", desc := "(III)I" } : MethodName)) ∈ gtb := gt_sg sg_5 55 (by decide +kernel) (by decide +kernel)
theorem w_1091 : (Cond.selects "TwoAgree" ({ cls := "TwoAgree", name := "row", desc := "(III)I" } : MethodName) ({ cls := "TwoAgree", name := "row", desc := "(III)I" } : MethodName)) ∈ gtb := gt_sg sg_5 56 (by decide +kernel) (by decide +kernel)
theorem lv_RL_158 : gLV RL 158 m_T_row 3 := ⟨lb_T_row, w_1089, w_1090, w_1091⟩
theorem w_1606 : Cond.code m_M_row.1 m_M_row.2.1 m_M_row.2.2.1 m_M_row.2.2.2 ∈ gtb := gt_sg sg_7 91 (by decide +kernel) (by decide +kernel)
theorem lb_M_row : gLB m_M_row 3 := ⟨w_1606, w_87, by decide +kernel, by decide +kernel, by decide +kernel⟩
theorem w_1603 : (Cond.methodLink "TwoAgreeLaw" (161 : Nat) ({ cls := "TwoAgreeModel", name := "row", desc := "(III)I" } : MethodName)) ∈ gtb := gt_sg sg_7 88 (by decide +kernel) (by decide +kernel)
theorem w_1604 : (Cond.instanceMethod ({ cls := "TwoAgreeModel", name := "row", desc := "(III)I" } : MethodName)) ∈ gtb := gt_sg sg_7 89 (by decide +kernel) (by decide +kernel)
theorem w_1605 : (Cond.selects "TwoAgreeModel" ({ cls := "TwoAgreeModel", name := "row", desc := "(III)I" } : MethodName) ({ cls := "TwoAgreeModel", name := "row", desc := "(III)I" } : MethodName)) ∈ gtb := gt_sg sg_7 90 (by decide +kernel) (by decide +kernel)
theorem lv_RL_161 : gLV RL 161 m_M_row 3 := ⟨lb_M_row, w_1603, w_1604, w_1605⟩
theorem w_1641 : (Cond.constantLong "TwoAgreeLaw" (162 : Nat) (4294967295 : Int64)) ∈ gtb := gt_sg sg_7 126 (by decide +kernel) (by decide +kernel)
theorem w_1103 : Cond.code m_T_put.1 m_T_put.2.1 m_T_put.2.2.1 m_T_put.2.2.2 ∈ gtb := gt_sg sg_5 68 (by decide +kernel) (by decide +kernel)
theorem lb_T_put : gLB m_T_put 3 := ⟨w_1103, w_76, by decide +kernel, by decide +kernel, by decide +kernel⟩
theorem w_1100 : (Cond.methodLink "TwoAgreeLaw" (164 : Nat) ({ cls := "TwoAgree", name := "put", desc := "(IIJ)I" } : MethodName)) ∈ gtb := gt_sg sg_5 65 (by decide +kernel) (by decide +kernel)
theorem w_1101 : (Cond.instanceMethod ({ cls := "TwoAgree", name := "put", desc := "(IIJ)I" } : MethodName)) ∈ gtb := gt_sg sg_5 66 (by decide +kernel) (by decide +kernel)
theorem w_1102 : (Cond.selects "TwoAgree" ({ cls := "TwoAgree", name := "put", desc := "(IIJ)I" } : MethodName) ({ cls := "TwoAgree", name := "put", desc := "(IIJ)I" } : MethodName)) ∈ gtb := gt_sg sg_5 67 (by decide +kernel) (by decide +kernel)
theorem lv_RL_164 : gLV RL 164 m_T_put 3 := ⟨lb_T_put, w_1100, w_1101, w_1102⟩
theorem w_1610 : Cond.code m_M_put.1 m_M_put.2.1 m_M_put.2.2.1 m_M_put.2.2.2 ∈ gtb := gt_sg sg_7 95 (by decide +kernel) (by decide +kernel)
theorem lb_M_put : gLB m_M_put 3 := ⟨w_1610, w_87, by decide +kernel, by decide +kernel, by decide +kernel⟩
theorem w_1607 : (Cond.methodLink "TwoAgreeLaw" (168 : Nat) ({ cls := "TwoAgreeModel", name := "put", desc := "(IIJ)I" } : MethodName)) ∈ gtb := gt_sg sg_7 92 (by decide +kernel) (by decide +kernel)
theorem w_1608 : (Cond.instanceMethod ({ cls := "TwoAgreeModel", name := "put", desc := "(IIJ)I" } : MethodName)) ∈ gtb := gt_sg sg_7 93 (by decide +kernel) (by decide +kernel)
theorem w_1609 : (Cond.selects "TwoAgreeModel" ({ cls := "TwoAgreeModel", name := "put", desc := "(IIJ)I" } : MethodName) ({ cls := "TwoAgreeModel", name := "put", desc := "(IIJ)I" } : MethodName)) ∈ gtb := gt_sg sg_7 94 (by decide +kernel) (by decide +kernel)
theorem lv_RL_168 : gLV RL 168 m_M_put 3 := ⟨lb_M_put, w_1607, w_1608, w_1609⟩
theorem w_1111 : Cond.code m_T_element.1 m_T_element.2.1 m_T_element.2.2.1 m_T_element.2.2.2 ∈ gtb := gt_sg sg_5 76 (by decide +kernel) (by decide +kernel)
theorem lb_T_element : gLB m_T_element 2 := ⟨w_1111, w_76, by decide +kernel, by decide +kernel, by decide +kernel⟩
theorem w_1108 : (Cond.methodLink "TwoAgreeLaw" (169 : Nat) ({ cls := "TwoAgree", name := "element", desc := "(II)J" } : MethodName)) ∈ gtb := gt_sg sg_5 73 (by decide +kernel) (by decide +kernel)
theorem w_1109 : (Cond.instanceMethod ({ cls := "TwoAgree", name := "element", desc := "(II)J" } : MethodName)) ∈ gtb := gt_sg sg_5 74 (by decide +kernel) (by decide +kernel)
theorem w_1110 : (Cond.selects "TwoAgree" ({ cls := "TwoAgree", name := "element", desc := "(II)J" } : MethodName) ({ cls := "TwoAgree", name := "element", desc := "(II)J" } : MethodName)) ∈ gtb := gt_sg sg_5 75 (by decide +kernel) (by decide +kernel)
theorem lv_RL_169 : gLV RL 169 m_T_element 2 := ⟨lb_T_element, w_1108, w_1109, w_1110⟩
theorem w_1621 : Cond.code m_M_element.1 m_M_element.2.1 m_M_element.2.2.1 m_M_element.2.2.2 ∈ gtb := gt_sg sg_7 106 (by decide +kernel) (by decide +kernel)
theorem lb_M_element : gLB m_M_element 2 := ⟨w_1621, w_87, by decide +kernel, by decide +kernel, by decide +kernel⟩
theorem w_1618 : (Cond.methodLink "TwoAgreeLaw" (173 : Nat) ({ cls := "TwoAgreeModel", name := "element", desc := "(II)J" } : MethodName)) ∈ gtb := gt_sg sg_7 103 (by decide +kernel) (by decide +kernel)
theorem w_1619 : (Cond.instanceMethod ({ cls := "TwoAgreeModel", name := "element", desc := "(II)J" } : MethodName)) ∈ gtb := gt_sg sg_7 104 (by decide +kernel) (by decide +kernel)
theorem w_1620 : (Cond.selects "TwoAgreeModel" ({ cls := "TwoAgreeModel", name := "element", desc := "(II)J" } : MethodName) ({ cls := "TwoAgreeModel", name := "element", desc := "(II)J" } : MethodName)) ∈ gtb := gt_sg sg_7 105 (by decide +kernel) (by decide +kernel)
theorem lv_RL_173 : gLV RL 173 m_M_element 2 := ⟨lb_M_element, w_1618, w_1619, w_1620⟩
theorem w_1115 : Cond.code m_T_shift.1 m_T_shift.2.1 m_T_shift.2.2.1 m_T_shift.2.2.2 ∈ gtb := gt_sg sg_5 80 (by decide +kernel) (by decide +kernel)
theorem lb_T_shift : gLB m_T_shift 5 := ⟨w_1115, w_76, by decide +kernel, by decide +kernel, by decide +kernel⟩
theorem w_1112 : (Cond.methodLink "TwoAgreeLaw" (174 : Nat) ({ cls := "TwoAgree", name := "shift", desc := "(IIIII)I" } : MethodName)) ∈ gtb := gt_sg sg_5 77 (by decide +kernel) (by decide +kernel)
theorem w_1113 : (Cond.instanceMethod ({ cls := "TwoAgree", name := "shift", desc := "(IIIII)I" } : MethodName)) ∈ gtb := gt_sg sg_5 78 (by decide +kernel) (by decide +kernel)
theorem w_1114 : (Cond.selects "TwoAgree" ({ cls := "TwoAgree", name := "shift", desc := "(IIIII)I" } : MethodName) ({ cls := "TwoAgree", name := "shift", desc := "(IIIII)I" } : MethodName)) ∈ gtb := gt_sg sg_5 79 (by decide +kernel) (by decide +kernel)
theorem lv_RL_174 : gLV RL 174 m_T_shift 5 := ⟨lb_T_shift, w_1112, w_1113, w_1114⟩
theorem w_1625 : Cond.code m_M_shift.1 m_M_shift.2.1 m_M_shift.2.2.1 m_M_shift.2.2.2 ∈ gtb := gt_sg sg_7 110 (by decide +kernel) (by decide +kernel)
theorem lb_M_shift : gLB m_M_shift 5 := ⟨w_1625, w_87, by decide +kernel, by decide +kernel, by decide +kernel⟩
theorem w_1622 : (Cond.methodLink "TwoAgreeLaw" (178 : Nat) ({ cls := "TwoAgreeModel", name := "shift", desc := "(IIIII)I" } : MethodName)) ∈ gtb := gt_sg sg_7 107 (by decide +kernel) (by decide +kernel)
theorem w_1623 : (Cond.instanceMethod ({ cls := "TwoAgreeModel", name := "shift", desc := "(IIIII)I" } : MethodName)) ∈ gtb := gt_sg sg_7 108 (by decide +kernel) (by decide +kernel)
theorem w_1624 : (Cond.selects "TwoAgreeModel" ({ cls := "TwoAgreeModel", name := "shift", desc := "(IIIII)I" } : MethodName) ({ cls := "TwoAgreeModel", name := "shift", desc := "(IIIII)I" } : MethodName)) ∈ gtb := gt_sg sg_7 109 (by decide +kernel) (by decide +kernel)
theorem lv_RL_178 : gLV RL 178 m_M_shift 5 := ⟨lb_M_shift, w_1622, w_1623, w_1624⟩
theorem w_1120 : Cond.code m_T_taken.1 m_T_taken.2.1 m_T_taken.2.2.1 m_T_taken.2.2.2 ∈ gtb := gt_sg sg_5 85 (by decide +kernel) (by decide +kernel)
theorem lb_T_taken : gLB m_T_taken 2 := ⟨w_1120, w_76, by decide +kernel, by decide +kernel, by decide +kernel⟩
theorem w_1117 : (Cond.methodLink "TwoAgreeLaw" (179 : Nat) ({ cls := "TwoAgree", name := "taken", desc := "(II)I" } : MethodName)) ∈ gtb := gt_sg sg_5 82 (by decide +kernel) (by decide +kernel)
theorem w_1118 : (Cond.instanceMethod ({ cls := "TwoAgree", name := "taken", desc := "(II)I" } : MethodName)) ∈ gtb := gt_sg sg_5 83 (by decide +kernel) (by decide +kernel)
theorem w_1119 : (Cond.selects "TwoAgree" ({ cls := "TwoAgree", name := "taken", desc := "(II)I" } : MethodName) ({ cls := "TwoAgree", name := "taken", desc := "(II)I" } : MethodName)) ∈ gtb := gt_sg sg_5 84 (by decide +kernel) (by decide +kernel)
theorem lv_RL_179 : gLV RL 179 m_T_taken 2 := ⟨lb_T_taken, w_1117, w_1118, w_1119⟩
theorem w_1629 : Cond.code m_M_taken.1 m_M_taken.2.1 m_M_taken.2.2.1 m_M_taken.2.2.2 ∈ gtb := gt_sg sg_7 114 (by decide +kernel) (by decide +kernel)
theorem lb_M_taken : gLB m_M_taken 2 := ⟨w_1629, w_87, by decide +kernel, by decide +kernel, by decide +kernel⟩
theorem w_1626 : (Cond.methodLink "TwoAgreeLaw" (182 : Nat) ({ cls := "TwoAgreeModel", name := "taken", desc := "(II)I" } : MethodName)) ∈ gtb := gt_sg sg_7 111 (by decide +kernel) (by decide +kernel)
theorem w_1627 : (Cond.instanceMethod ({ cls := "TwoAgreeModel", name := "taken", desc := "(II)I" } : MethodName)) ∈ gtb := gt_sg sg_7 112 (by decide +kernel) (by decide +kernel)
theorem w_1628 : (Cond.selects "TwoAgreeModel" ({ cls := "TwoAgreeModel", name := "taken", desc := "(II)I" } : MethodName) ({ cls := "TwoAgreeModel", name := "taken", desc := "(II)I" } : MethodName)) ∈ gtb := gt_sg sg_7 113 (by decide +kernel) (by decide +kernel)
theorem lv_RL_182 : gLV RL 182 m_M_taken 2 := ⟨lb_M_taken, w_1626, w_1627, w_1628⟩
theorem w_1128 : Cond.code m_T_count.1 m_T_count.2.1 m_T_count.2.2.1 m_T_count.2.2.2 ∈ gtb := gt_sg sg_5 93 (by decide +kernel) (by decide +kernel)
theorem lb_T_count : gLB m_T_count 1 := ⟨w_1128, w_76, by decide +kernel, by decide +kernel, by decide +kernel⟩
theorem w_1125 : (Cond.methodLink "TwoAgreeLaw" (183 : Nat) ({ cls := "TwoAgree", name := "count", desc := "(I)I" } : MethodName)) ∈ gtb := gt_sg sg_5 90 (by decide +kernel) (by decide +kernel)
theorem w_1126 : (Cond.instanceMethod ({ cls := "TwoAgree", name := "count", desc := "(I)I" } : MethodName)) ∈ gtb := gt_sg sg_5 91 (by decide +kernel) (by decide +kernel)
theorem w_1127 : (Cond.selects "TwoAgree" ({ cls := "TwoAgree", name := "count", desc := "(I)I" } : MethodName) ({ cls := "TwoAgree", name := "count", desc := "(I)I" } : MethodName)) ∈ gtb := gt_sg sg_5 92 (by decide +kernel) (by decide +kernel)
theorem lv_RL_183 : gLV RL 183 m_T_count 1 := ⟨lb_T_count, w_1125, w_1126, w_1127⟩
theorem w_1640 : Cond.code m_M_count.1 m_M_count.2.1 m_M_count.2.2.1 m_M_count.2.2.2 ∈ gtb := gt_sg sg_7 125 (by decide +kernel) (by decide +kernel)
theorem lb_M_count : gLB m_M_count 1 := ⟨w_1640, w_87, by decide +kernel, by decide +kernel, by decide +kernel⟩
theorem w_1637 : (Cond.methodLink "TwoAgreeLaw" (186 : Nat) ({ cls := "TwoAgreeModel", name := "count", desc := "(I)I" } : MethodName)) ∈ gtb := gt_sg sg_7 122 (by decide +kernel) (by decide +kernel)
theorem w_1638 : (Cond.instanceMethod ({ cls := "TwoAgreeModel", name := "count", desc := "(I)I" } : MethodName)) ∈ gtb := gt_sg sg_7 123 (by decide +kernel) (by decide +kernel)
theorem w_1639 : (Cond.selects "TwoAgreeModel" ({ cls := "TwoAgreeModel", name := "count", desc := "(I)I" } : MethodName) ({ cls := "TwoAgreeModel", name := "count", desc := "(I)I" } : MethodName)) ∈ gtb := gt_sg sg_7 124 (by decide +kernel) (by decide +kernel)
theorem lv_RL_186 : gLV RL 186 m_M_count 1 := ⟨lb_M_count, w_1637, w_1638, w_1639⟩
theorem d_law_18 : decode m_law.2.1 18 = .ok (.iload_n 3, 1) := by decide +kernel
theorem d_law_19 : decode m_law.2.1 19 = .ok (.aload_n 0, 1) := by decide +kernel
theorem d_law_20 : decode m_law.2.1 20 = .ok (.arraylength, 1) := by decide +kernel
theorem d_law_21 : decode m_law.2.1 21 = .ok (.bipush (6), 2) := by decide +kernel
theorem d_law_23 : decode m_law.2.1 23 = .ok (.isub, 1) := by decide +kernel
theorem d_law_24 : decode m_law.2.1 24 = .ok (.if_icmp .gt (1449), 3) := by decide +kernel
theorem d_law_1473 : decode m_law.2.1 1473 = .ok (.iconst 1, 1) := by decide +kernel
theorem d_law_1474 : decode m_law.2.1 1474 = .ok (.ireturn, 1) := by decide +kernel
theorem d_law_27 : decode m_law.2.1 27 = .ok (.aload_n 0, 1) := by decide +kernel
theorem d_law_28 : decode m_law.2.1 28 = .ok (.iload_n 3, 1) := by decide +kernel
theorem d_law_29 : decode m_law.2.1 29 = .ok (.iaload, 1) := by decide +kernel
theorem d_law_30 : decode m_law.2.1 30 = .ok (.bipush (63), 2) := by decide +kernel
theorem d_law_32 : decode m_law.2.1 32 = .ok (.iand, 1) := by decide +kernel
theorem d_law_33 : decode m_law.2.1 33 = .ok (.tableswitch (1434) (0) (40) #[179, 202, 245, 288, 321, 344, 357, 380, 403, 426, 469, 502, 535, 568, 591, 614, 658, 691, 724, 747, 790, 833, 876, 899, 912, 935, 968, 991, 1004, 1017, 1030, 1043, 1066, 1109, 1132, 1165, 1208, 1281, 1315, 1378, 1411], 179) := by decide +kernel
theorem d_law_212 : decode m_law.2.1 212 = .ok (.aload_n 1, 1) := by decide +kernel
theorem d_law_213 : decode m_law.2.1 213 = .ok (.aload_n 0, 1) := by decide +kernel
theorem d_law_214 : decode m_law.2.1 214 = .ok (.iload_n 3, 1) := by decide +kernel
theorem d_law_215 : decode m_law.2.1 215 = .ok (.iconst 1, 1) := by decide +kernel
theorem d_law_216 : decode m_law.2.1 216 = .ok (.iadd, 1) := by decide +kernel
theorem d_law_217 : decode m_law.2.1 217 = .ok (.iaload, 1) := by decide +kernel
theorem d_law_218 : decode m_law.2.1 218 = .ok (.invokevirtual 13, 3) := by decide +kernel
theorem d_law_221 : decode m_law.2.1 221 = .ok (.aload_n 2, 1) := by decide +kernel
theorem d_law_222 : decode m_law.2.1 222 = .ok (.aload_n 0, 1) := by decide +kernel
theorem d_law_223 : decode m_law.2.1 223 = .ok (.iload_n 3, 1) := by decide +kernel
theorem d_law_224 : decode m_law.2.1 224 = .ok (.iconst 1, 1) := by decide +kernel
theorem d_law_225 : decode m_law.2.1 225 = .ok (.iadd, 1) := by decide +kernel
theorem d_law_226 : decode m_law.2.1 226 = .ok (.iaload, 1) := by decide +kernel
theorem d_law_227 : decode m_law.2.1 227 = .ok (.invokevirtual 17, 3) := by decide +kernel
theorem d_law_230 : decode m_law.2.1 230 = .ok (.if_icmp .eq (1237), 3) := by decide +kernel
theorem d_law_1467 : decode m_law.2.1 1467 = .ok (.iinc 3 (6), 3) := by decide +kernel
theorem d_law_1470 : decode m_law.2.1 1470 = .ok (.goto (-1452), 3) := by decide +kernel
theorem d_law_233 : decode m_law.2.1 233 = .ok (.iconst 0, 1) := by decide +kernel
theorem d_law_234 : decode m_law.2.1 234 = .ok (.ireturn, 1) := by decide +kernel
theorem d_law_235 : decode m_law.2.1 235 = .ok (.aload_n 1, 1) := by decide +kernel
theorem d_law_236 : decode m_law.2.1 236 = .ok (.aload_n 0, 1) := by decide +kernel
theorem d_law_237 : decode m_law.2.1 237 = .ok (.iload_n 3, 1) := by decide +kernel
theorem d_law_238 : decode m_law.2.1 238 = .ok (.iconst 1, 1) := by decide +kernel
theorem d_law_239 : decode m_law.2.1 239 = .ok (.iadd, 1) := by decide +kernel
theorem d_law_240 : decode m_law.2.1 240 = .ok (.iaload, 1) := by decide +kernel
theorem d_law_241 : decode m_law.2.1 241 = .ok (.aload_n 0, 1) := by decide +kernel
theorem d_law_242 : decode m_law.2.1 242 = .ok (.iload_n 3, 1) := by decide +kernel
theorem d_law_243 : decode m_law.2.1 243 = .ok (.iconst 2, 1) := by decide +kernel
theorem d_law_244 : decode m_law.2.1 244 = .ok (.iadd, 1) := by decide +kernel
theorem d_law_245 : decode m_law.2.1 245 = .ok (.iaload, 1) := by decide +kernel
theorem d_law_246 : decode m_law.2.1 246 = .ok (.aload_n 0, 1) := by decide +kernel
theorem d_law_247 : decode m_law.2.1 247 = .ok (.iload_n 3, 1) := by decide +kernel
theorem d_law_248 : decode m_law.2.1 248 = .ok (.iconst 3, 1) := by decide +kernel
theorem d_law_249 : decode m_law.2.1 249 = .ok (.iadd, 1) := by decide +kernel
theorem d_law_250 : decode m_law.2.1 250 = .ok (.iaload, 1) := by decide +kernel
theorem d_law_251 : decode m_law.2.1 251 = .ok (.invokevirtual 18, 3) := by decide +kernel
theorem d_law_254 : decode m_law.2.1 254 = .ok (.aload_n 2, 1) := by decide +kernel
theorem d_law_255 : decode m_law.2.1 255 = .ok (.aload_n 0, 1) := by decide +kernel
theorem d_law_256 : decode m_law.2.1 256 = .ok (.iload_n 3, 1) := by decide +kernel
theorem d_law_257 : decode m_law.2.1 257 = .ok (.iconst 1, 1) := by decide +kernel
theorem d_law_258 : decode m_law.2.1 258 = .ok (.iadd, 1) := by decide +kernel
theorem d_law_259 : decode m_law.2.1 259 = .ok (.iaload, 1) := by decide +kernel
theorem d_law_260 : decode m_law.2.1 260 = .ok (.aload_n 0, 1) := by decide +kernel
theorem d_law_261 : decode m_law.2.1 261 = .ok (.iload_n 3, 1) := by decide +kernel
theorem d_law_262 : decode m_law.2.1 262 = .ok (.iconst 2, 1) := by decide +kernel
theorem d_law_263 : decode m_law.2.1 263 = .ok (.iadd, 1) := by decide +kernel
theorem d_law_264 : decode m_law.2.1 264 = .ok (.iaload, 1) := by decide +kernel
theorem d_law_265 : decode m_law.2.1 265 = .ok (.aload_n 0, 1) := by decide +kernel
theorem d_law_266 : decode m_law.2.1 266 = .ok (.iload_n 3, 1) := by decide +kernel
theorem d_law_267 : decode m_law.2.1 267 = .ok (.iconst 3, 1) := by decide +kernel
theorem d_law_268 : decode m_law.2.1 268 = .ok (.iadd, 1) := by decide +kernel
theorem d_law_269 : decode m_law.2.1 269 = .ok (.iaload, 1) := by decide +kernel
theorem d_law_270 : decode m_law.2.1 270 = .ok (.invokevirtual 22, 3) := by decide +kernel
theorem d_law_273 : decode m_law.2.1 273 = .ok (.if_icmp .eq (1194), 3) := by decide +kernel
theorem d_law_276 : decode m_law.2.1 276 = .ok (.iconst 0, 1) := by decide +kernel
theorem d_law_277 : decode m_law.2.1 277 = .ok (.ireturn, 1) := by decide +kernel
theorem d_law_278 : decode m_law.2.1 278 = .ok (.aload_n 1, 1) := by decide +kernel
theorem d_law_279 : decode m_law.2.1 279 = .ok (.aload_n 0, 1) := by decide +kernel
theorem d_law_280 : decode m_law.2.1 280 = .ok (.iload_n 3, 1) := by decide +kernel
theorem d_law_281 : decode m_law.2.1 281 = .ok (.iconst 1, 1) := by decide +kernel
theorem d_law_282 : decode m_law.2.1 282 = .ok (.iadd, 1) := by decide +kernel
theorem d_law_283 : decode m_law.2.1 283 = .ok (.iaload, 1) := by decide +kernel
theorem d_law_284 : decode m_law.2.1 284 = .ok (.aload_n 0, 1) := by decide +kernel
theorem d_law_285 : decode m_law.2.1 285 = .ok (.iload_n 3, 1) := by decide +kernel
theorem d_law_286 : decode m_law.2.1 286 = .ok (.iconst 2, 1) := by decide +kernel
theorem d_law_287 : decode m_law.2.1 287 = .ok (.iadd, 1) := by decide +kernel
theorem d_law_288 : decode m_law.2.1 288 = .ok (.iaload, 1) := by decide +kernel
theorem d_law_289 : decode m_law.2.1 289 = .ok (.aload_n 0, 1) := by decide +kernel
theorem d_law_290 : decode m_law.2.1 290 = .ok (.iload_n 3, 1) := by decide +kernel
theorem d_law_291 : decode m_law.2.1 291 = .ok (.iconst 3, 1) := by decide +kernel
theorem d_law_292 : decode m_law.2.1 292 = .ok (.iadd, 1) := by decide +kernel
theorem d_law_293 : decode m_law.2.1 293 = .ok (.iaload, 1) := by decide +kernel
theorem d_law_294 : decode m_law.2.1 294 = .ok (.invokevirtual 23, 3) := by decide +kernel
theorem d_law_297 : decode m_law.2.1 297 = .ok (.aload_n 2, 1) := by decide +kernel
theorem d_law_298 : decode m_law.2.1 298 = .ok (.aload_n 0, 1) := by decide +kernel
theorem d_law_299 : decode m_law.2.1 299 = .ok (.iload_n 3, 1) := by decide +kernel
theorem d_law_300 : decode m_law.2.1 300 = .ok (.iconst 1, 1) := by decide +kernel
theorem d_law_301 : decode m_law.2.1 301 = .ok (.iadd, 1) := by decide +kernel
theorem d_law_302 : decode m_law.2.1 302 = .ok (.iaload, 1) := by decide +kernel
theorem d_law_303 : decode m_law.2.1 303 = .ok (.aload_n 0, 1) := by decide +kernel
theorem d_law_304 : decode m_law.2.1 304 = .ok (.iload_n 3, 1) := by decide +kernel
theorem d_law_305 : decode m_law.2.1 305 = .ok (.iconst 2, 1) := by decide +kernel
theorem d_law_306 : decode m_law.2.1 306 = .ok (.iadd, 1) := by decide +kernel
theorem d_law_307 : decode m_law.2.1 307 = .ok (.iaload, 1) := by decide +kernel
theorem d_law_308 : decode m_law.2.1 308 = .ok (.aload_n 0, 1) := by decide +kernel
theorem d_law_309 : decode m_law.2.1 309 = .ok (.iload_n 3, 1) := by decide +kernel
theorem d_law_310 : decode m_law.2.1 310 = .ok (.iconst 3, 1) := by decide +kernel
theorem d_law_311 : decode m_law.2.1 311 = .ok (.iadd, 1) := by decide +kernel
theorem d_law_312 : decode m_law.2.1 312 = .ok (.iaload, 1) := by decide +kernel
theorem d_law_313 : decode m_law.2.1 313 = .ok (.invokevirtual 26, 3) := by decide +kernel
theorem d_law_316 : decode m_law.2.1 316 = .ok (.if_icmp .eq (1151), 3) := by decide +kernel
theorem d_law_319 : decode m_law.2.1 319 = .ok (.iconst 0, 1) := by decide +kernel
theorem d_law_320 : decode m_law.2.1 320 = .ok (.ireturn, 1) := by decide +kernel
theorem d_law_321 : decode m_law.2.1 321 = .ok (.aload_n 1, 1) := by decide +kernel
theorem d_law_322 : decode m_law.2.1 322 = .ok (.aload_n 0, 1) := by decide +kernel
theorem d_law_323 : decode m_law.2.1 323 = .ok (.iload_n 3, 1) := by decide +kernel
theorem d_law_324 : decode m_law.2.1 324 = .ok (.iconst 1, 1) := by decide +kernel
theorem d_law_325 : decode m_law.2.1 325 = .ok (.iadd, 1) := by decide +kernel
theorem d_law_326 : decode m_law.2.1 326 = .ok (.iaload, 1) := by decide +kernel
theorem d_law_327 : decode m_law.2.1 327 = .ok (.aload_n 0, 1) := by decide +kernel
theorem d_law_328 : decode m_law.2.1 328 = .ok (.iload_n 3, 1) := by decide +kernel
theorem d_law_329 : decode m_law.2.1 329 = .ok (.iconst 2, 1) := by decide +kernel
theorem d_law_330 : decode m_law.2.1 330 = .ok (.iadd, 1) := by decide +kernel
theorem d_law_331 : decode m_law.2.1 331 = .ok (.iaload, 1) := by decide +kernel
theorem d_law_332 : decode m_law.2.1 332 = .ok (.invokevirtual 27, 3) := by decide +kernel
theorem d_law_335 : decode m_law.2.1 335 = .ok (.aload_n 2, 1) := by decide +kernel
theorem d_law_336 : decode m_law.2.1 336 = .ok (.aload_n 0, 1) := by decide +kernel
theorem d_law_337 : decode m_law.2.1 337 = .ok (.iload_n 3, 1) := by decide +kernel
theorem d_law_338 : decode m_law.2.1 338 = .ok (.iconst 1, 1) := by decide +kernel
theorem d_law_339 : decode m_law.2.1 339 = .ok (.iadd, 1) := by decide +kernel
theorem d_law_340 : decode m_law.2.1 340 = .ok (.iaload, 1) := by decide +kernel
theorem d_law_341 : decode m_law.2.1 341 = .ok (.aload_n 0, 1) := by decide +kernel
theorem d_law_342 : decode m_law.2.1 342 = .ok (.iload_n 3, 1) := by decide +kernel
theorem d_law_343 : decode m_law.2.1 343 = .ok (.iconst 2, 1) := by decide +kernel
theorem d_law_344 : decode m_law.2.1 344 = .ok (.iadd, 1) := by decide +kernel
theorem d_law_345 : decode m_law.2.1 345 = .ok (.iaload, 1) := by decide +kernel
theorem d_law_346 : decode m_law.2.1 346 = .ok (.invokevirtual 31, 3) := by decide +kernel
theorem d_law_349 : decode m_law.2.1 349 = .ok (.if_icmp .eq (1118), 3) := by decide +kernel
theorem d_law_352 : decode m_law.2.1 352 = .ok (.iconst 0, 1) := by decide +kernel
theorem d_law_353 : decode m_law.2.1 353 = .ok (.ireturn, 1) := by decide +kernel
theorem d_law_354 : decode m_law.2.1 354 = .ok (.aload_n 1, 1) := by decide +kernel
theorem d_law_355 : decode m_law.2.1 355 = .ok (.aload_n 0, 1) := by decide +kernel
theorem d_law_356 : decode m_law.2.1 356 = .ok (.iload_n 3, 1) := by decide +kernel
theorem d_law_357 : decode m_law.2.1 357 = .ok (.iconst 1, 1) := by decide +kernel
theorem d_law_358 : decode m_law.2.1 358 = .ok (.iadd, 1) := by decide +kernel
theorem d_law_359 : decode m_law.2.1 359 = .ok (.iaload, 1) := by decide +kernel
theorem d_law_360 : decode m_law.2.1 360 = .ok (.invokevirtual 32, 3) := by decide +kernel
theorem d_law_363 : decode m_law.2.1 363 = .ok (.aload_n 2, 1) := by decide +kernel
theorem d_law_364 : decode m_law.2.1 364 = .ok (.aload_n 0, 1) := by decide +kernel
theorem d_law_365 : decode m_law.2.1 365 = .ok (.iload_n 3, 1) := by decide +kernel
theorem d_law_366 : decode m_law.2.1 366 = .ok (.iconst 1, 1) := by decide +kernel
theorem d_law_367 : decode m_law.2.1 367 = .ok (.iadd, 1) := by decide +kernel
theorem d_law_368 : decode m_law.2.1 368 = .ok (.iaload, 1) := by decide +kernel
theorem d_law_369 : decode m_law.2.1 369 = .ok (.invokevirtual 35, 3) := by decide +kernel
theorem d_law_372 : decode m_law.2.1 372 = .ok (.if_icmp .eq (1095), 3) := by decide +kernel
theorem d_law_375 : decode m_law.2.1 375 = .ok (.iconst 0, 1) := by decide +kernel
theorem d_law_376 : decode m_law.2.1 376 = .ok (.ireturn, 1) := by decide +kernel
theorem d_law_377 : decode m_law.2.1 377 = .ok (.aload_n 1, 1) := by decide +kernel
theorem d_law_378 : decode m_law.2.1 378 = .ok (.invokevirtual 36, 3) := by decide +kernel
theorem d_law_381 : decode m_law.2.1 381 = .ok (.aload_n 2, 1) := by decide +kernel
theorem d_law_382 : decode m_law.2.1 382 = .ok (.invokevirtual 40, 3) := by decide +kernel
theorem d_law_385 : decode m_law.2.1 385 = .ok (.if_icmp .eq (1082), 3) := by decide +kernel
theorem d_law_388 : decode m_law.2.1 388 = .ok (.iconst 0, 1) := by decide +kernel
theorem d_law_389 : decode m_law.2.1 389 = .ok (.ireturn, 1) := by decide +kernel
theorem d_law_390 : decode m_law.2.1 390 = .ok (.aload_n 1, 1) := by decide +kernel
theorem d_law_391 : decode m_law.2.1 391 = .ok (.aload_n 0, 1) := by decide +kernel
theorem d_law_392 : decode m_law.2.1 392 = .ok (.iload_n 3, 1) := by decide +kernel
theorem d_law_393 : decode m_law.2.1 393 = .ok (.iconst 1, 1) := by decide +kernel
theorem d_law_394 : decode m_law.2.1 394 = .ok (.iadd, 1) := by decide +kernel
theorem d_law_395 : decode m_law.2.1 395 = .ok (.iaload, 1) := by decide +kernel
theorem d_law_396 : decode m_law.2.1 396 = .ok (.invokevirtual 41, 3) := by decide +kernel
theorem d_law_399 : decode m_law.2.1 399 = .ok (.aload_n 2, 1) := by decide +kernel
theorem d_law_400 : decode m_law.2.1 400 = .ok (.aload_n 0, 1) := by decide +kernel
theorem d_law_401 : decode m_law.2.1 401 = .ok (.iload_n 3, 1) := by decide +kernel
theorem d_law_402 : decode m_law.2.1 402 = .ok (.iconst 1, 1) := by decide +kernel
theorem d_law_403 : decode m_law.2.1 403 = .ok (.iadd, 1) := by decide +kernel
theorem d_law_404 : decode m_law.2.1 404 = .ok (.iaload, 1) := by decide +kernel
theorem d_law_405 : decode m_law.2.1 405 = .ok (.invokevirtual 44, 3) := by decide +kernel
theorem d_law_408 : decode m_law.2.1 408 = .ok (.if_icmp .eq (1059), 3) := by decide +kernel
theorem d_law_411 : decode m_law.2.1 411 = .ok (.iconst 0, 1) := by decide +kernel
theorem d_law_412 : decode m_law.2.1 412 = .ok (.ireturn, 1) := by decide +kernel
theorem d_law_413 : decode m_law.2.1 413 = .ok (.aload_n 1, 1) := by decide +kernel
theorem d_law_414 : decode m_law.2.1 414 = .ok (.aload_n 0, 1) := by decide +kernel
theorem d_law_415 : decode m_law.2.1 415 = .ok (.iload_n 3, 1) := by decide +kernel
theorem d_law_416 : decode m_law.2.1 416 = .ok (.iconst 1, 1) := by decide +kernel
theorem d_law_417 : decode m_law.2.1 417 = .ok (.iadd, 1) := by decide +kernel
theorem d_law_418 : decode m_law.2.1 418 = .ok (.iaload, 1) := by decide +kernel
theorem d_law_419 : decode m_law.2.1 419 = .ok (.invokevirtual 45, 3) := by decide +kernel
theorem d_law_422 : decode m_law.2.1 422 = .ok (.aload_n 2, 1) := by decide +kernel
theorem d_law_423 : decode m_law.2.1 423 = .ok (.aload_n 0, 1) := by decide +kernel
theorem d_law_424 : decode m_law.2.1 424 = .ok (.iload_n 3, 1) := by decide +kernel
theorem d_law_425 : decode m_law.2.1 425 = .ok (.iconst 1, 1) := by decide +kernel
theorem d_law_426 : decode m_law.2.1 426 = .ok (.iadd, 1) := by decide +kernel
theorem d_law_427 : decode m_law.2.1 427 = .ok (.iaload, 1) := by decide +kernel
theorem d_law_428 : decode m_law.2.1 428 = .ok (.invokevirtual 48, 3) := by decide +kernel
theorem d_law_431 : decode m_law.2.1 431 = .ok (.if_icmp .eq (1036), 3) := by decide +kernel
theorem d_law_434 : decode m_law.2.1 434 = .ok (.iconst 0, 1) := by decide +kernel
theorem d_law_435 : decode m_law.2.1 435 = .ok (.ireturn, 1) := by decide +kernel
theorem d_law_436 : decode m_law.2.1 436 = .ok (.aload_n 1, 1) := by decide +kernel
theorem d_law_437 : decode m_law.2.1 437 = .ok (.aload_n 0, 1) := by decide +kernel
theorem d_law_438 : decode m_law.2.1 438 = .ok (.iload_n 3, 1) := by decide +kernel
theorem d_law_439 : decode m_law.2.1 439 = .ok (.iconst 1, 1) := by decide +kernel
theorem d_law_440 : decode m_law.2.1 440 = .ok (.iadd, 1) := by decide +kernel
theorem d_law_441 : decode m_law.2.1 441 = .ok (.iaload, 1) := by decide +kernel
theorem d_law_442 : decode m_law.2.1 442 = .ok (.invokevirtual 49, 3) := by decide +kernel
theorem d_law_445 : decode m_law.2.1 445 = .ok (.aload_n 2, 1) := by decide +kernel
theorem d_law_446 : decode m_law.2.1 446 = .ok (.aload_n 0, 1) := by decide +kernel
theorem d_law_447 : decode m_law.2.1 447 = .ok (.iload_n 3, 1) := by decide +kernel
theorem d_law_448 : decode m_law.2.1 448 = .ok (.iconst 1, 1) := by decide +kernel
theorem d_law_449 : decode m_law.2.1 449 = .ok (.iadd, 1) := by decide +kernel
theorem d_law_450 : decode m_law.2.1 450 = .ok (.iaload, 1) := by decide +kernel
theorem d_law_451 : decode m_law.2.1 451 = .ok (.invokevirtual 52, 3) := by decide +kernel
theorem d_law_454 : decode m_law.2.1 454 = .ok (.if_icmp .eq (1013), 3) := by decide +kernel
theorem d_law_457 : decode m_law.2.1 457 = .ok (.iconst 0, 1) := by decide +kernel
theorem d_law_458 : decode m_law.2.1 458 = .ok (.ireturn, 1) := by decide +kernel
theorem d_law_459 : decode m_law.2.1 459 = .ok (.aload_n 1, 1) := by decide +kernel
theorem d_law_460 : decode m_law.2.1 460 = .ok (.aload_n 0, 1) := by decide +kernel
theorem d_law_461 : decode m_law.2.1 461 = .ok (.iload_n 3, 1) := by decide +kernel
theorem d_law_462 : decode m_law.2.1 462 = .ok (.iconst 1, 1) := by decide +kernel
theorem d_law_463 : decode m_law.2.1 463 = .ok (.iadd, 1) := by decide +kernel
theorem d_law_464 : decode m_law.2.1 464 = .ok (.iaload, 1) := by decide +kernel
theorem d_law_465 : decode m_law.2.1 465 = .ok (.aload_n 0, 1) := by decide +kernel
theorem d_law_466 : decode m_law.2.1 466 = .ok (.iload_n 3, 1) := by decide +kernel
theorem d_law_467 : decode m_law.2.1 467 = .ok (.iconst 2, 1) := by decide +kernel
theorem d_law_468 : decode m_law.2.1 468 = .ok (.iadd, 1) := by decide +kernel
theorem d_law_469 : decode m_law.2.1 469 = .ok (.iaload, 1) := by decide +kernel
theorem d_law_470 : decode m_law.2.1 470 = .ok (.aload_n 0, 1) := by decide +kernel
theorem d_law_471 : decode m_law.2.1 471 = .ok (.iload_n 3, 1) := by decide +kernel
theorem d_law_472 : decode m_law.2.1 472 = .ok (.iconst 3, 1) := by decide +kernel
theorem d_law_473 : decode m_law.2.1 473 = .ok (.iadd, 1) := by decide +kernel
theorem d_law_474 : decode m_law.2.1 474 = .ok (.iaload, 1) := by decide +kernel
theorem d_law_475 : decode m_law.2.1 475 = .ok (.invokevirtual 53, 3) := by decide +kernel
theorem d_law_478 : decode m_law.2.1 478 = .ok (.aload_n 2, 1) := by decide +kernel
theorem d_law_479 : decode m_law.2.1 479 = .ok (.aload_n 0, 1) := by decide +kernel
theorem d_law_480 : decode m_law.2.1 480 = .ok (.iload_n 3, 1) := by decide +kernel
theorem d_law_481 : decode m_law.2.1 481 = .ok (.iconst 1, 1) := by decide +kernel
theorem d_law_482 : decode m_law.2.1 482 = .ok (.iadd, 1) := by decide +kernel
theorem d_law_483 : decode m_law.2.1 483 = .ok (.iaload, 1) := by decide +kernel
theorem d_law_484 : decode m_law.2.1 484 = .ok (.aload_n 0, 1) := by decide +kernel
theorem d_law_485 : decode m_law.2.1 485 = .ok (.iload_n 3, 1) := by decide +kernel
theorem d_law_486 : decode m_law.2.1 486 = .ok (.iconst 2, 1) := by decide +kernel
theorem d_law_487 : decode m_law.2.1 487 = .ok (.iadd, 1) := by decide +kernel
theorem d_law_488 : decode m_law.2.1 488 = .ok (.iaload, 1) := by decide +kernel
theorem d_law_489 : decode m_law.2.1 489 = .ok (.aload_n 0, 1) := by decide +kernel
theorem d_law_490 : decode m_law.2.1 490 = .ok (.iload_n 3, 1) := by decide +kernel
theorem d_law_491 : decode m_law.2.1 491 = .ok (.iconst 3, 1) := by decide +kernel
theorem d_law_492 : decode m_law.2.1 492 = .ok (.iadd, 1) := by decide +kernel
theorem d_law_493 : decode m_law.2.1 493 = .ok (.iaload, 1) := by decide +kernel
theorem d_law_494 : decode m_law.2.1 494 = .ok (.invokevirtual 56, 3) := by decide +kernel
theorem d_law_497 : decode m_law.2.1 497 = .ok (.if_icmp .eq (970), 3) := by decide +kernel
theorem d_law_500 : decode m_law.2.1 500 = .ok (.iconst 0, 1) := by decide +kernel
theorem d_law_501 : decode m_law.2.1 501 = .ok (.ireturn, 1) := by decide +kernel
theorem d_law_502 : decode m_law.2.1 502 = .ok (.aload_n 1, 1) := by decide +kernel
theorem d_law_503 : decode m_law.2.1 503 = .ok (.aload_n 0, 1) := by decide +kernel
theorem d_law_504 : decode m_law.2.1 504 = .ok (.iload_n 3, 1) := by decide +kernel
theorem d_law_505 : decode m_law.2.1 505 = .ok (.iconst 1, 1) := by decide +kernel
theorem d_law_506 : decode m_law.2.1 506 = .ok (.iadd, 1) := by decide +kernel
theorem d_law_507 : decode m_law.2.1 507 = .ok (.iaload, 1) := by decide +kernel
theorem d_law_508 : decode m_law.2.1 508 = .ok (.aload_n 0, 1) := by decide +kernel
theorem d_law_509 : decode m_law.2.1 509 = .ok (.iload_n 3, 1) := by decide +kernel
theorem d_law_510 : decode m_law.2.1 510 = .ok (.iconst 2, 1) := by decide +kernel
theorem d_law_511 : decode m_law.2.1 511 = .ok (.iadd, 1) := by decide +kernel
theorem d_law_512 : decode m_law.2.1 512 = .ok (.iaload, 1) := by decide +kernel
theorem d_law_513 : decode m_law.2.1 513 = .ok (.invokevirtual 57, 3) := by decide +kernel
theorem d_law_516 : decode m_law.2.1 516 = .ok (.aload_n 2, 1) := by decide +kernel
theorem d_law_517 : decode m_law.2.1 517 = .ok (.aload_n 0, 1) := by decide +kernel
theorem d_law_518 : decode m_law.2.1 518 = .ok (.iload_n 3, 1) := by decide +kernel
theorem d_law_519 : decode m_law.2.1 519 = .ok (.iconst 1, 1) := by decide +kernel
theorem d_law_520 : decode m_law.2.1 520 = .ok (.iadd, 1) := by decide +kernel
theorem d_law_521 : decode m_law.2.1 521 = .ok (.iaload, 1) := by decide +kernel
theorem d_law_522 : decode m_law.2.1 522 = .ok (.aload_n 0, 1) := by decide +kernel
theorem d_law_523 : decode m_law.2.1 523 = .ok (.iload_n 3, 1) := by decide +kernel
theorem d_law_524 : decode m_law.2.1 524 = .ok (.iconst 2, 1) := by decide +kernel
theorem d_law_525 : decode m_law.2.1 525 = .ok (.iadd, 1) := by decide +kernel
theorem d_law_526 : decode m_law.2.1 526 = .ok (.iaload, 1) := by decide +kernel
theorem d_law_527 : decode m_law.2.1 527 = .ok (.invokevirtual 60, 3) := by decide +kernel
theorem d_law_530 : decode m_law.2.1 530 = .ok (.if_icmp .eq (937), 3) := by decide +kernel
theorem d_law_533 : decode m_law.2.1 533 = .ok (.iconst 0, 1) := by decide +kernel
theorem d_law_534 : decode m_law.2.1 534 = .ok (.ireturn, 1) := by decide +kernel
theorem d_law_535 : decode m_law.2.1 535 = .ok (.aload_n 1, 1) := by decide +kernel
theorem d_law_536 : decode m_law.2.1 536 = .ok (.aload_n 0, 1) := by decide +kernel
theorem d_law_537 : decode m_law.2.1 537 = .ok (.iload_n 3, 1) := by decide +kernel
theorem d_law_538 : decode m_law.2.1 538 = .ok (.iconst 1, 1) := by decide +kernel
theorem d_law_539 : decode m_law.2.1 539 = .ok (.iadd, 1) := by decide +kernel
theorem d_law_540 : decode m_law.2.1 540 = .ok (.iaload, 1) := by decide +kernel
theorem d_law_541 : decode m_law.2.1 541 = .ok (.aload_n 0, 1) := by decide +kernel
theorem d_law_542 : decode m_law.2.1 542 = .ok (.iload_n 3, 1) := by decide +kernel
theorem d_law_543 : decode m_law.2.1 543 = .ok (.iconst 2, 1) := by decide +kernel
theorem d_law_544 : decode m_law.2.1 544 = .ok (.iadd, 1) := by decide +kernel
theorem d_law_545 : decode m_law.2.1 545 = .ok (.iaload, 1) := by decide +kernel
theorem d_law_546 : decode m_law.2.1 546 = .ok (.invokevirtual 61, 3) := by decide +kernel
theorem d_law_549 : decode m_law.2.1 549 = .ok (.aload_n 2, 1) := by decide +kernel
theorem d_law_550 : decode m_law.2.1 550 = .ok (.aload_n 0, 1) := by decide +kernel
theorem d_law_551 : decode m_law.2.1 551 = .ok (.iload_n 3, 1) := by decide +kernel
theorem d_law_552 : decode m_law.2.1 552 = .ok (.iconst 1, 1) := by decide +kernel
theorem d_law_553 : decode m_law.2.1 553 = .ok (.iadd, 1) := by decide +kernel
theorem d_law_554 : decode m_law.2.1 554 = .ok (.iaload, 1) := by decide +kernel
theorem d_law_555 : decode m_law.2.1 555 = .ok (.aload_n 0, 1) := by decide +kernel
theorem d_law_556 : decode m_law.2.1 556 = .ok (.iload_n 3, 1) := by decide +kernel
theorem d_law_557 : decode m_law.2.1 557 = .ok (.iconst 2, 1) := by decide +kernel
theorem d_law_558 : decode m_law.2.1 558 = .ok (.iadd, 1) := by decide +kernel
theorem d_law_559 : decode m_law.2.1 559 = .ok (.iaload, 1) := by decide +kernel
theorem d_law_560 : decode m_law.2.1 560 = .ok (.invokevirtual 64, 3) := by decide +kernel
theorem d_law_563 : decode m_law.2.1 563 = .ok (.if_icmp .eq (904), 3) := by decide +kernel
theorem d_law_566 : decode m_law.2.1 566 = .ok (.iconst 0, 1) := by decide +kernel
theorem d_law_567 : decode m_law.2.1 567 = .ok (.ireturn, 1) := by decide +kernel
theorem d_law_568 : decode m_law.2.1 568 = .ok (.aload_n 1, 1) := by decide +kernel
theorem d_law_569 : decode m_law.2.1 569 = .ok (.aload_n 0, 1) := by decide +kernel
theorem d_law_570 : decode m_law.2.1 570 = .ok (.iload_n 3, 1) := by decide +kernel
theorem d_law_571 : decode m_law.2.1 571 = .ok (.iconst 1, 1) := by decide +kernel
theorem d_law_572 : decode m_law.2.1 572 = .ok (.iadd, 1) := by decide +kernel
theorem d_law_573 : decode m_law.2.1 573 = .ok (.iaload, 1) := by decide +kernel
theorem d_law_574 : decode m_law.2.1 574 = .ok (.aload_n 0, 1) := by decide +kernel
theorem d_law_575 : decode m_law.2.1 575 = .ok (.iload_n 3, 1) := by decide +kernel
theorem d_law_576 : decode m_law.2.1 576 = .ok (.iconst 2, 1) := by decide +kernel
theorem d_law_577 : decode m_law.2.1 577 = .ok (.iadd, 1) := by decide +kernel
theorem d_law_578 : decode m_law.2.1 578 = .ok (.iaload, 1) := by decide +kernel
theorem d_law_579 : decode m_law.2.1 579 = .ok (.invokevirtual 65, 3) := by decide +kernel
theorem d_law_582 : decode m_law.2.1 582 = .ok (.aload_n 2, 1) := by decide +kernel
theorem d_law_583 : decode m_law.2.1 583 = .ok (.aload_n 0, 1) := by decide +kernel
theorem d_law_584 : decode m_law.2.1 584 = .ok (.iload_n 3, 1) := by decide +kernel
theorem d_law_585 : decode m_law.2.1 585 = .ok (.iconst 1, 1) := by decide +kernel
theorem d_law_586 : decode m_law.2.1 586 = .ok (.iadd, 1) := by decide +kernel
theorem d_law_587 : decode m_law.2.1 587 = .ok (.iaload, 1) := by decide +kernel
theorem d_law_588 : decode m_law.2.1 588 = .ok (.aload_n 0, 1) := by decide +kernel
theorem d_law_589 : decode m_law.2.1 589 = .ok (.iload_n 3, 1) := by decide +kernel
theorem d_law_590 : decode m_law.2.1 590 = .ok (.iconst 2, 1) := by decide +kernel
theorem d_law_591 : decode m_law.2.1 591 = .ok (.iadd, 1) := by decide +kernel
theorem d_law_592 : decode m_law.2.1 592 = .ok (.iaload, 1) := by decide +kernel
theorem d_law_593 : decode m_law.2.1 593 = .ok (.invokevirtual 68, 3) := by decide +kernel
theorem d_law_596 : decode m_law.2.1 596 = .ok (.if_icmp .eq (871), 3) := by decide +kernel
theorem d_law_599 : decode m_law.2.1 599 = .ok (.iconst 0, 1) := by decide +kernel
theorem d_law_600 : decode m_law.2.1 600 = .ok (.ireturn, 1) := by decide +kernel
theorem d_law_601 : decode m_law.2.1 601 = .ok (.aload_n 1, 1) := by decide +kernel
theorem d_law_602 : decode m_law.2.1 602 = .ok (.aload_n 0, 1) := by decide +kernel
theorem d_law_603 : decode m_law.2.1 603 = .ok (.iload_n 3, 1) := by decide +kernel
theorem d_law_604 : decode m_law.2.1 604 = .ok (.iconst 1, 1) := by decide +kernel
theorem d_law_605 : decode m_law.2.1 605 = .ok (.iadd, 1) := by decide +kernel
theorem d_law_606 : decode m_law.2.1 606 = .ok (.iaload, 1) := by decide +kernel
theorem d_law_607 : decode m_law.2.1 607 = .ok (.invokevirtual 69, 3) := by decide +kernel
theorem d_law_610 : decode m_law.2.1 610 = .ok (.aload_n 2, 1) := by decide +kernel
theorem d_law_611 : decode m_law.2.1 611 = .ok (.aload_n 0, 1) := by decide +kernel
theorem d_law_612 : decode m_law.2.1 612 = .ok (.iload_n 3, 1) := by decide +kernel
theorem d_law_613 : decode m_law.2.1 613 = .ok (.iconst 1, 1) := by decide +kernel
theorem d_law_614 : decode m_law.2.1 614 = .ok (.iadd, 1) := by decide +kernel
theorem d_law_615 : decode m_law.2.1 615 = .ok (.iaload, 1) := by decide +kernel
theorem d_law_616 : decode m_law.2.1 616 = .ok (.invokevirtual 72, 3) := by decide +kernel
theorem d_law_619 : decode m_law.2.1 619 = .ok (.if_icmp .eq (848), 3) := by decide +kernel
theorem d_law_622 : decode m_law.2.1 622 = .ok (.iconst 0, 1) := by decide +kernel
theorem d_law_623 : decode m_law.2.1 623 = .ok (.ireturn, 1) := by decide +kernel
theorem d_law_624 : decode m_law.2.1 624 = .ok (.aload_n 1, 1) := by decide +kernel
theorem d_law_625 : decode m_law.2.1 625 = .ok (.aload_n 0, 1) := by decide +kernel
theorem d_law_626 : decode m_law.2.1 626 = .ok (.iload_n 3, 1) := by decide +kernel
theorem d_law_627 : decode m_law.2.1 627 = .ok (.iconst 1, 1) := by decide +kernel
theorem d_law_628 : decode m_law.2.1 628 = .ok (.iadd, 1) := by decide +kernel
theorem d_law_629 : decode m_law.2.1 629 = .ok (.iaload, 1) := by decide +kernel
theorem d_law_630 : decode m_law.2.1 630 = .ok (.invokevirtual 73, 3) := by decide +kernel
theorem d_law_633 : decode m_law.2.1 633 = .ok (.aload_n 2, 1) := by decide +kernel
theorem d_law_634 : decode m_law.2.1 634 = .ok (.aload_n 0, 1) := by decide +kernel
theorem d_law_635 : decode m_law.2.1 635 = .ok (.iload_n 3, 1) := by decide +kernel
theorem d_law_636 : decode m_law.2.1 636 = .ok (.iconst 1, 1) := by decide +kernel
theorem d_law_637 : decode m_law.2.1 637 = .ok (.iadd, 1) := by decide +kernel
theorem d_law_638 : decode m_law.2.1 638 = .ok (.iaload, 1) := by decide +kernel
theorem d_law_639 : decode m_law.2.1 639 = .ok (.invokevirtual 76, 3) := by decide +kernel
theorem d_law_642 : decode m_law.2.1 642 = .ok (.if_icmp .eq (825), 3) := by decide +kernel
theorem d_law_645 : decode m_law.2.1 645 = .ok (.iconst 0, 1) := by decide +kernel
theorem d_law_646 : decode m_law.2.1 646 = .ok (.ireturn, 1) := by decide +kernel
theorem d_law_647 : decode m_law.2.1 647 = .ok (.aload_n 1, 1) := by decide +kernel
theorem d_law_648 : decode m_law.2.1 648 = .ok (.aload_n 0, 1) := by decide +kernel
theorem d_law_649 : decode m_law.2.1 649 = .ok (.iload_n 3, 1) := by decide +kernel
theorem d_law_650 : decode m_law.2.1 650 = .ok (.iconst 1, 1) := by decide +kernel
theorem d_law_651 : decode m_law.2.1 651 = .ok (.iadd, 1) := by decide +kernel
theorem d_law_652 : decode m_law.2.1 652 = .ok (.iaload, 1) := by decide +kernel
theorem d_law_653 : decode m_law.2.1 653 = .ok (.aload_n 0, 1) := by decide +kernel
theorem d_law_654 : decode m_law.2.1 654 = .ok (.iload_n 3, 1) := by decide +kernel
theorem d_law_655 : decode m_law.2.1 655 = .ok (.iconst 2, 1) := by decide +kernel
theorem d_law_656 : decode m_law.2.1 656 = .ok (.iadd, 1) := by decide +kernel
theorem d_law_657 : decode m_law.2.1 657 = .ok (.iaload, 1) := by decide +kernel
theorem d_law_658 : decode m_law.2.1 658 = .ok (.aload_n 0, 1) := by decide +kernel
theorem d_law_659 : decode m_law.2.1 659 = .ok (.iload_n 3, 1) := by decide +kernel
theorem d_law_660 : decode m_law.2.1 660 = .ok (.iconst 3, 1) := by decide +kernel
theorem d_law_661 : decode m_law.2.1 661 = .ok (.iadd, 1) := by decide +kernel
theorem d_law_662 : decode m_law.2.1 662 = .ok (.iaload, 1) := by decide +kernel
theorem d_law_663 : decode m_law.2.1 663 = .ok (.invokevirtual 77, 3) := by decide +kernel
theorem d_law_666 : decode m_law.2.1 666 = .ok (.aload_n 2, 1) := by decide +kernel
theorem d_law_667 : decode m_law.2.1 667 = .ok (.aload_n 0, 1) := by decide +kernel
theorem d_law_668 : decode m_law.2.1 668 = .ok (.iload_n 3, 1) := by decide +kernel
theorem d_law_669 : decode m_law.2.1 669 = .ok (.iconst 1, 1) := by decide +kernel
theorem d_law_670 : decode m_law.2.1 670 = .ok (.iadd, 1) := by decide +kernel
theorem d_law_671 : decode m_law.2.1 671 = .ok (.iaload, 1) := by decide +kernel
theorem d_law_672 : decode m_law.2.1 672 = .ok (.aload_n 0, 1) := by decide +kernel
theorem d_law_673 : decode m_law.2.1 673 = .ok (.iload_n 3, 1) := by decide +kernel
theorem d_law_674 : decode m_law.2.1 674 = .ok (.iconst 2, 1) := by decide +kernel
theorem d_law_675 : decode m_law.2.1 675 = .ok (.iadd, 1) := by decide +kernel
theorem d_law_676 : decode m_law.2.1 676 = .ok (.iaload, 1) := by decide +kernel
theorem d_law_677 : decode m_law.2.1 677 = .ok (.aload_n 0, 1) := by decide +kernel
theorem d_law_678 : decode m_law.2.1 678 = .ok (.iload_n 3, 1) := by decide +kernel
theorem d_law_679 : decode m_law.2.1 679 = .ok (.iconst 3, 1) := by decide +kernel
theorem d_law_680 : decode m_law.2.1 680 = .ok (.iadd, 1) := by decide +kernel
theorem d_law_681 : decode m_law.2.1 681 = .ok (.iaload, 1) := by decide +kernel
theorem d_law_682 : decode m_law.2.1 682 = .ok (.invokevirtual 81, 3) := by decide +kernel
theorem d_law_685 : decode m_law.2.1 685 = .ok (.lcmp, 1) := by decide +kernel
theorem d_law_686 : decode m_law.2.1 686 = .ok (.ifCond .eq (781), 3) := by decide +kernel
theorem d_law_689 : decode m_law.2.1 689 = .ok (.iconst 0, 1) := by decide +kernel
theorem d_law_690 : decode m_law.2.1 690 = .ok (.ireturn, 1) := by decide +kernel
theorem d_law_691 : decode m_law.2.1 691 = .ok (.aload_n 1, 1) := by decide +kernel
theorem d_law_692 : decode m_law.2.1 692 = .ok (.aload_n 0, 1) := by decide +kernel
theorem d_law_693 : decode m_law.2.1 693 = .ok (.iload_n 3, 1) := by decide +kernel
theorem d_law_694 : decode m_law.2.1 694 = .ok (.iconst 1, 1) := by decide +kernel
theorem d_law_695 : decode m_law.2.1 695 = .ok (.iadd, 1) := by decide +kernel
theorem d_law_696 : decode m_law.2.1 696 = .ok (.iaload, 1) := by decide +kernel
theorem d_law_697 : decode m_law.2.1 697 = .ok (.aload_n 0, 1) := by decide +kernel
theorem d_law_698 : decode m_law.2.1 698 = .ok (.iload_n 3, 1) := by decide +kernel
theorem d_law_699 : decode m_law.2.1 699 = .ok (.iconst 2, 1) := by decide +kernel
theorem d_law_700 : decode m_law.2.1 700 = .ok (.iadd, 1) := by decide +kernel
theorem d_law_701 : decode m_law.2.1 701 = .ok (.iaload, 1) := by decide +kernel
theorem d_law_702 : decode m_law.2.1 702 = .ok (.invokevirtual 82, 3) := by decide +kernel
theorem d_law_705 : decode m_law.2.1 705 = .ok (.aload_n 2, 1) := by decide +kernel
theorem d_law_706 : decode m_law.2.1 706 = .ok (.aload_n 0, 1) := by decide +kernel
theorem d_law_707 : decode m_law.2.1 707 = .ok (.iload_n 3, 1) := by decide +kernel
theorem d_law_708 : decode m_law.2.1 708 = .ok (.iconst 1, 1) := by decide +kernel
theorem d_law_709 : decode m_law.2.1 709 = .ok (.iadd, 1) := by decide +kernel
theorem d_law_710 : decode m_law.2.1 710 = .ok (.iaload, 1) := by decide +kernel
theorem d_law_711 : decode m_law.2.1 711 = .ok (.aload_n 0, 1) := by decide +kernel
theorem d_law_712 : decode m_law.2.1 712 = .ok (.iload_n 3, 1) := by decide +kernel
theorem d_law_713 : decode m_law.2.1 713 = .ok (.iconst 2, 1) := by decide +kernel
theorem d_law_714 : decode m_law.2.1 714 = .ok (.iadd, 1) := by decide +kernel
theorem d_law_715 : decode m_law.2.1 715 = .ok (.iaload, 1) := by decide +kernel
theorem d_law_716 : decode m_law.2.1 716 = .ok (.invokevirtual 85, 3) := by decide +kernel
theorem d_law_719 : decode m_law.2.1 719 = .ok (.if_icmp .eq (748), 3) := by decide +kernel
theorem d_law_722 : decode m_law.2.1 722 = .ok (.iconst 0, 1) := by decide +kernel
theorem d_law_723 : decode m_law.2.1 723 = .ok (.ireturn, 1) := by decide +kernel
theorem d_law_724 : decode m_law.2.1 724 = .ok (.aload_n 1, 1) := by decide +kernel
theorem d_law_725 : decode m_law.2.1 725 = .ok (.aload_n 0, 1) := by decide +kernel
theorem d_law_726 : decode m_law.2.1 726 = .ok (.iload_n 3, 1) := by decide +kernel
theorem d_law_727 : decode m_law.2.1 727 = .ok (.iconst 1, 1) := by decide +kernel
theorem d_law_728 : decode m_law.2.1 728 = .ok (.iadd, 1) := by decide +kernel
theorem d_law_729 : decode m_law.2.1 729 = .ok (.iaload, 1) := by decide +kernel
theorem d_law_730 : decode m_law.2.1 730 = .ok (.aload_n 0, 1) := by decide +kernel
theorem d_law_731 : decode m_law.2.1 731 = .ok (.iload_n 3, 1) := by decide +kernel
theorem d_law_732 : decode m_law.2.1 732 = .ok (.iconst 2, 1) := by decide +kernel
theorem d_law_733 : decode m_law.2.1 733 = .ok (.iadd, 1) := by decide +kernel
theorem d_law_734 : decode m_law.2.1 734 = .ok (.iaload, 1) := by decide +kernel
theorem d_law_735 : decode m_law.2.1 735 = .ok (.invokevirtual 86, 3) := by decide +kernel
theorem d_law_738 : decode m_law.2.1 738 = .ok (.aload_n 2, 1) := by decide +kernel
theorem d_law_739 : decode m_law.2.1 739 = .ok (.aload_n 0, 1) := by decide +kernel
theorem d_law_740 : decode m_law.2.1 740 = .ok (.iload_n 3, 1) := by decide +kernel
theorem d_law_741 : decode m_law.2.1 741 = .ok (.iconst 1, 1) := by decide +kernel
theorem d_law_742 : decode m_law.2.1 742 = .ok (.iadd, 1) := by decide +kernel
theorem d_law_743 : decode m_law.2.1 743 = .ok (.iaload, 1) := by decide +kernel
theorem d_law_744 : decode m_law.2.1 744 = .ok (.aload_n 0, 1) := by decide +kernel
theorem d_law_745 : decode m_law.2.1 745 = .ok (.iload_n 3, 1) := by decide +kernel
theorem d_law_746 : decode m_law.2.1 746 = .ok (.iconst 2, 1) := by decide +kernel
theorem d_law_747 : decode m_law.2.1 747 = .ok (.iadd, 1) := by decide +kernel
theorem d_law_748 : decode m_law.2.1 748 = .ok (.iaload, 1) := by decide +kernel
theorem d_law_749 : decode m_law.2.1 749 = .ok (.invokevirtual 89, 3) := by decide +kernel
theorem d_law_752 : decode m_law.2.1 752 = .ok (.if_icmp .eq (715), 3) := by decide +kernel
theorem d_law_755 : decode m_law.2.1 755 = .ok (.iconst 0, 1) := by decide +kernel
theorem d_law_756 : decode m_law.2.1 756 = .ok (.ireturn, 1) := by decide +kernel
theorem d_law_757 : decode m_law.2.1 757 = .ok (.aload_n 1, 1) := by decide +kernel
theorem d_law_758 : decode m_law.2.1 758 = .ok (.aload_n 0, 1) := by decide +kernel
theorem d_law_759 : decode m_law.2.1 759 = .ok (.iload_n 3, 1) := by decide +kernel
theorem d_law_760 : decode m_law.2.1 760 = .ok (.iconst 1, 1) := by decide +kernel
theorem d_law_761 : decode m_law.2.1 761 = .ok (.iadd, 1) := by decide +kernel
theorem d_law_762 : decode m_law.2.1 762 = .ok (.iaload, 1) := by decide +kernel
theorem d_law_763 : decode m_law.2.1 763 = .ok (.invokevirtual 90, 3) := by decide +kernel
theorem d_law_766 : decode m_law.2.1 766 = .ok (.aload_n 2, 1) := by decide +kernel
theorem d_law_767 : decode m_law.2.1 767 = .ok (.aload_n 0, 1) := by decide +kernel
theorem d_law_768 : decode m_law.2.1 768 = .ok (.iload_n 3, 1) := by decide +kernel
theorem d_law_769 : decode m_law.2.1 769 = .ok (.iconst 1, 1) := by decide +kernel
theorem d_law_770 : decode m_law.2.1 770 = .ok (.iadd, 1) := by decide +kernel
theorem d_law_771 : decode m_law.2.1 771 = .ok (.iaload, 1) := by decide +kernel
theorem d_law_772 : decode m_law.2.1 772 = .ok (.invokevirtual 93, 3) := by decide +kernel
theorem d_law_775 : decode m_law.2.1 775 = .ok (.if_icmp .eq (692), 3) := by decide +kernel
theorem d_law_778 : decode m_law.2.1 778 = .ok (.iconst 0, 1) := by decide +kernel
theorem d_law_779 : decode m_law.2.1 779 = .ok (.ireturn, 1) := by decide +kernel
theorem d_law_780 : decode m_law.2.1 780 = .ok (.aload_n 1, 1) := by decide +kernel
theorem d_law_781 : decode m_law.2.1 781 = .ok (.aload_n 0, 1) := by decide +kernel
theorem d_law_782 : decode m_law.2.1 782 = .ok (.iload_n 3, 1) := by decide +kernel
theorem d_law_783 : decode m_law.2.1 783 = .ok (.iconst 1, 1) := by decide +kernel
theorem d_law_784 : decode m_law.2.1 784 = .ok (.iadd, 1) := by decide +kernel
theorem d_law_785 : decode m_law.2.1 785 = .ok (.iaload, 1) := by decide +kernel
theorem d_law_786 : decode m_law.2.1 786 = .ok (.aload_n 0, 1) := by decide +kernel
theorem d_law_787 : decode m_law.2.1 787 = .ok (.iload_n 3, 1) := by decide +kernel
theorem d_law_788 : decode m_law.2.1 788 = .ok (.iconst 2, 1) := by decide +kernel
theorem d_law_789 : decode m_law.2.1 789 = .ok (.iadd, 1) := by decide +kernel
theorem d_law_790 : decode m_law.2.1 790 = .ok (.iaload, 1) := by decide +kernel
theorem d_law_791 : decode m_law.2.1 791 = .ok (.aload_n 0, 1) := by decide +kernel
theorem d_law_792 : decode m_law.2.1 792 = .ok (.iload_n 3, 1) := by decide +kernel
theorem d_law_793 : decode m_law.2.1 793 = .ok (.iconst 3, 1) := by decide +kernel
theorem d_law_794 : decode m_law.2.1 794 = .ok (.iadd, 1) := by decide +kernel
theorem d_law_795 : decode m_law.2.1 795 = .ok (.iaload, 1) := by decide +kernel
theorem d_law_796 : decode m_law.2.1 796 = .ok (.invokevirtual 94, 3) := by decide +kernel
theorem d_law_799 : decode m_law.2.1 799 = .ok (.aload_n 2, 1) := by decide +kernel
theorem d_law_800 : decode m_law.2.1 800 = .ok (.aload_n 0, 1) := by decide +kernel
theorem d_law_801 : decode m_law.2.1 801 = .ok (.iload_n 3, 1) := by decide +kernel
theorem d_law_802 : decode m_law.2.1 802 = .ok (.iconst 1, 1) := by decide +kernel
theorem d_law_803 : decode m_law.2.1 803 = .ok (.iadd, 1) := by decide +kernel
theorem d_law_804 : decode m_law.2.1 804 = .ok (.iaload, 1) := by decide +kernel
theorem d_law_805 : decode m_law.2.1 805 = .ok (.aload_n 0, 1) := by decide +kernel
theorem d_law_806 : decode m_law.2.1 806 = .ok (.iload_n 3, 1) := by decide +kernel
theorem d_law_807 : decode m_law.2.1 807 = .ok (.iconst 2, 1) := by decide +kernel
theorem d_law_808 : decode m_law.2.1 808 = .ok (.iadd, 1) := by decide +kernel
theorem d_law_809 : decode m_law.2.1 809 = .ok (.iaload, 1) := by decide +kernel
theorem d_law_810 : decode m_law.2.1 810 = .ok (.aload_n 0, 1) := by decide +kernel
theorem d_law_811 : decode m_law.2.1 811 = .ok (.iload_n 3, 1) := by decide +kernel
theorem d_law_812 : decode m_law.2.1 812 = .ok (.iconst 3, 1) := by decide +kernel
theorem d_law_813 : decode m_law.2.1 813 = .ok (.iadd, 1) := by decide +kernel
theorem d_law_814 : decode m_law.2.1 814 = .ok (.iaload, 1) := by decide +kernel
theorem d_law_815 : decode m_law.2.1 815 = .ok (.invokevirtual 97, 3) := by decide +kernel
theorem d_law_818 : decode m_law.2.1 818 = .ok (.if_icmp .eq (649), 3) := by decide +kernel
theorem d_law_821 : decode m_law.2.1 821 = .ok (.iconst 0, 1) := by decide +kernel
theorem d_law_822 : decode m_law.2.1 822 = .ok (.ireturn, 1) := by decide +kernel
theorem d_law_823 : decode m_law.2.1 823 = .ok (.aload_n 1, 1) := by decide +kernel
theorem d_law_824 : decode m_law.2.1 824 = .ok (.aload_n 0, 1) := by decide +kernel
theorem d_law_825 : decode m_law.2.1 825 = .ok (.iload_n 3, 1) := by decide +kernel
theorem d_law_826 : decode m_law.2.1 826 = .ok (.iconst 1, 1) := by decide +kernel
theorem d_law_827 : decode m_law.2.1 827 = .ok (.iadd, 1) := by decide +kernel
theorem d_law_828 : decode m_law.2.1 828 = .ok (.iaload, 1) := by decide +kernel
theorem d_law_829 : decode m_law.2.1 829 = .ok (.aload_n 0, 1) := by decide +kernel
theorem d_law_830 : decode m_law.2.1 830 = .ok (.iload_n 3, 1) := by decide +kernel
theorem d_law_831 : decode m_law.2.1 831 = .ok (.iconst 2, 1) := by decide +kernel
theorem d_law_832 : decode m_law.2.1 832 = .ok (.iadd, 1) := by decide +kernel
theorem d_law_833 : decode m_law.2.1 833 = .ok (.iaload, 1) := by decide +kernel
theorem d_law_834 : decode m_law.2.1 834 = .ok (.aload_n 0, 1) := by decide +kernel
theorem d_law_835 : decode m_law.2.1 835 = .ok (.iload_n 3, 1) := by decide +kernel
theorem d_law_836 : decode m_law.2.1 836 = .ok (.iconst 3, 1) := by decide +kernel
theorem d_law_837 : decode m_law.2.1 837 = .ok (.iadd, 1) := by decide +kernel
theorem d_law_838 : decode m_law.2.1 838 = .ok (.iaload, 1) := by decide +kernel
theorem d_law_839 : decode m_law.2.1 839 = .ok (.invokevirtual 98, 3) := by decide +kernel
theorem d_law_842 : decode m_law.2.1 842 = .ok (.aload_n 2, 1) := by decide +kernel
theorem d_law_843 : decode m_law.2.1 843 = .ok (.aload_n 0, 1) := by decide +kernel
theorem d_law_844 : decode m_law.2.1 844 = .ok (.iload_n 3, 1) := by decide +kernel
theorem d_law_845 : decode m_law.2.1 845 = .ok (.iconst 1, 1) := by decide +kernel
theorem d_law_846 : decode m_law.2.1 846 = .ok (.iadd, 1) := by decide +kernel
theorem d_law_847 : decode m_law.2.1 847 = .ok (.iaload, 1) := by decide +kernel
theorem d_law_848 : decode m_law.2.1 848 = .ok (.aload_n 0, 1) := by decide +kernel
theorem d_law_849 : decode m_law.2.1 849 = .ok (.iload_n 3, 1) := by decide +kernel
theorem d_law_850 : decode m_law.2.1 850 = .ok (.iconst 2, 1) := by decide +kernel
theorem d_law_851 : decode m_law.2.1 851 = .ok (.iadd, 1) := by decide +kernel
theorem d_law_852 : decode m_law.2.1 852 = .ok (.iaload, 1) := by decide +kernel
theorem d_law_853 : decode m_law.2.1 853 = .ok (.aload_n 0, 1) := by decide +kernel
theorem d_law_854 : decode m_law.2.1 854 = .ok (.iload_n 3, 1) := by decide +kernel
theorem d_law_855 : decode m_law.2.1 855 = .ok (.iconst 3, 1) := by decide +kernel
theorem d_law_856 : decode m_law.2.1 856 = .ok (.iadd, 1) := by decide +kernel
theorem d_law_857 : decode m_law.2.1 857 = .ok (.iaload, 1) := by decide +kernel
theorem d_law_858 : decode m_law.2.1 858 = .ok (.invokevirtual 101, 3) := by decide +kernel
theorem d_law_861 : decode m_law.2.1 861 = .ok (.if_icmp .eq (606), 3) := by decide +kernel
theorem d_law_864 : decode m_law.2.1 864 = .ok (.iconst 0, 1) := by decide +kernel
theorem d_law_865 : decode m_law.2.1 865 = .ok (.ireturn, 1) := by decide +kernel
theorem d_law_866 : decode m_law.2.1 866 = .ok (.aload_n 1, 1) := by decide +kernel
theorem d_law_867 : decode m_law.2.1 867 = .ok (.aload_n 0, 1) := by decide +kernel
theorem d_law_868 : decode m_law.2.1 868 = .ok (.iload_n 3, 1) := by decide +kernel
theorem d_law_869 : decode m_law.2.1 869 = .ok (.iconst 1, 1) := by decide +kernel
theorem d_law_870 : decode m_law.2.1 870 = .ok (.iadd, 1) := by decide +kernel
theorem d_law_871 : decode m_law.2.1 871 = .ok (.iaload, 1) := by decide +kernel
theorem d_law_872 : decode m_law.2.1 872 = .ok (.aload_n 0, 1) := by decide +kernel
theorem d_law_873 : decode m_law.2.1 873 = .ok (.iload_n 3, 1) := by decide +kernel
theorem d_law_874 : decode m_law.2.1 874 = .ok (.iconst 2, 1) := by decide +kernel
theorem d_law_875 : decode m_law.2.1 875 = .ok (.iadd, 1) := by decide +kernel
theorem d_law_876 : decode m_law.2.1 876 = .ok (.iaload, 1) := by decide +kernel
theorem d_law_877 : decode m_law.2.1 877 = .ok (.aload_n 0, 1) := by decide +kernel
theorem d_law_878 : decode m_law.2.1 878 = .ok (.iload_n 3, 1) := by decide +kernel
theorem d_law_879 : decode m_law.2.1 879 = .ok (.iconst 3, 1) := by decide +kernel
theorem d_law_880 : decode m_law.2.1 880 = .ok (.iadd, 1) := by decide +kernel
theorem d_law_881 : decode m_law.2.1 881 = .ok (.iaload, 1) := by decide +kernel
theorem d_law_882 : decode m_law.2.1 882 = .ok (.invokevirtual 102, 3) := by decide +kernel
theorem d_law_885 : decode m_law.2.1 885 = .ok (.aload_n 2, 1) := by decide +kernel
theorem d_law_886 : decode m_law.2.1 886 = .ok (.aload_n 0, 1) := by decide +kernel
theorem d_law_887 : decode m_law.2.1 887 = .ok (.iload_n 3, 1) := by decide +kernel
theorem d_law_888 : decode m_law.2.1 888 = .ok (.iconst 1, 1) := by decide +kernel
theorem d_law_889 : decode m_law.2.1 889 = .ok (.iadd, 1) := by decide +kernel
theorem d_law_890 : decode m_law.2.1 890 = .ok (.iaload, 1) := by decide +kernel
theorem d_law_891 : decode m_law.2.1 891 = .ok (.aload_n 0, 1) := by decide +kernel
theorem d_law_892 : decode m_law.2.1 892 = .ok (.iload_n 3, 1) := by decide +kernel
theorem d_law_893 : decode m_law.2.1 893 = .ok (.iconst 2, 1) := by decide +kernel
theorem d_law_894 : decode m_law.2.1 894 = .ok (.iadd, 1) := by decide +kernel
theorem d_law_895 : decode m_law.2.1 895 = .ok (.iaload, 1) := by decide +kernel
theorem d_law_896 : decode m_law.2.1 896 = .ok (.aload_n 0, 1) := by decide +kernel
theorem d_law_897 : decode m_law.2.1 897 = .ok (.iload_n 3, 1) := by decide +kernel
theorem d_law_898 : decode m_law.2.1 898 = .ok (.iconst 3, 1) := by decide +kernel
theorem d_law_899 : decode m_law.2.1 899 = .ok (.iadd, 1) := by decide +kernel
theorem d_law_900 : decode m_law.2.1 900 = .ok (.iaload, 1) := by decide +kernel
theorem d_law_901 : decode m_law.2.1 901 = .ok (.invokevirtual 105, 3) := by decide +kernel
theorem d_law_904 : decode m_law.2.1 904 = .ok (.if_icmp .eq (563), 3) := by decide +kernel
theorem d_law_907 : decode m_law.2.1 907 = .ok (.iconst 0, 1) := by decide +kernel
theorem d_law_908 : decode m_law.2.1 908 = .ok (.ireturn, 1) := by decide +kernel
theorem d_law_909 : decode m_law.2.1 909 = .ok (.aload_n 1, 1) := by decide +kernel
theorem d_law_910 : decode m_law.2.1 910 = .ok (.aload_n 0, 1) := by decide +kernel
theorem d_law_911 : decode m_law.2.1 911 = .ok (.iload_n 3, 1) := by decide +kernel
theorem d_law_912 : decode m_law.2.1 912 = .ok (.iconst 1, 1) := by decide +kernel
theorem d_law_913 : decode m_law.2.1 913 = .ok (.iadd, 1) := by decide +kernel
theorem d_law_914 : decode m_law.2.1 914 = .ok (.iaload, 1) := by decide +kernel
theorem d_law_915 : decode m_law.2.1 915 = .ok (.invokevirtual 106, 3) := by decide +kernel
theorem d_law_918 : decode m_law.2.1 918 = .ok (.aload_n 2, 1) := by decide +kernel
theorem d_law_919 : decode m_law.2.1 919 = .ok (.aload_n 0, 1) := by decide +kernel
theorem d_law_920 : decode m_law.2.1 920 = .ok (.iload_n 3, 1) := by decide +kernel
theorem d_law_921 : decode m_law.2.1 921 = .ok (.iconst 1, 1) := by decide +kernel
theorem d_law_922 : decode m_law.2.1 922 = .ok (.iadd, 1) := by decide +kernel
theorem d_law_923 : decode m_law.2.1 923 = .ok (.iaload, 1) := by decide +kernel
theorem d_law_924 : decode m_law.2.1 924 = .ok (.invokevirtual 109, 3) := by decide +kernel
theorem d_law_927 : decode m_law.2.1 927 = .ok (.if_icmp .eq (540), 3) := by decide +kernel
theorem d_law_930 : decode m_law.2.1 930 = .ok (.iconst 0, 1) := by decide +kernel
theorem d_law_931 : decode m_law.2.1 931 = .ok (.ireturn, 1) := by decide +kernel
theorem d_law_932 : decode m_law.2.1 932 = .ok (.aload_n 1, 1) := by decide +kernel
theorem d_law_933 : decode m_law.2.1 933 = .ok (.invokevirtual 110, 3) := by decide +kernel
theorem d_law_936 : decode m_law.2.1 936 = .ok (.aload_n 2, 1) := by decide +kernel
theorem d_law_937 : decode m_law.2.1 937 = .ok (.invokevirtual 113, 3) := by decide +kernel
theorem d_law_940 : decode m_law.2.1 940 = .ok (.if_icmp .eq (527), 3) := by decide +kernel
theorem d_law_943 : decode m_law.2.1 943 = .ok (.iconst 0, 1) := by decide +kernel
theorem d_law_944 : decode m_law.2.1 944 = .ok (.ireturn, 1) := by decide +kernel
theorem d_law_945 : decode m_law.2.1 945 = .ok (.aload_n 1, 1) := by decide +kernel
theorem d_law_946 : decode m_law.2.1 946 = .ok (.aload_n 0, 1) := by decide +kernel
theorem d_law_947 : decode m_law.2.1 947 = .ok (.iload_n 3, 1) := by decide +kernel
theorem d_law_948 : decode m_law.2.1 948 = .ok (.iconst 1, 1) := by decide +kernel
theorem d_law_949 : decode m_law.2.1 949 = .ok (.iadd, 1) := by decide +kernel
theorem d_law_950 : decode m_law.2.1 950 = .ok (.iaload, 1) := by decide +kernel
theorem d_law_951 : decode m_law.2.1 951 = .ok (.invokevirtual 114, 3) := by decide +kernel
theorem d_law_954 : decode m_law.2.1 954 = .ok (.aload_n 2, 1) := by decide +kernel
theorem d_law_955 : decode m_law.2.1 955 = .ok (.aload_n 0, 1) := by decide +kernel
theorem d_law_956 : decode m_law.2.1 956 = .ok (.iload_n 3, 1) := by decide +kernel
theorem d_law_957 : decode m_law.2.1 957 = .ok (.iconst 1, 1) := by decide +kernel
theorem d_law_958 : decode m_law.2.1 958 = .ok (.iadd, 1) := by decide +kernel
theorem d_law_959 : decode m_law.2.1 959 = .ok (.iaload, 1) := by decide +kernel
theorem d_law_960 : decode m_law.2.1 960 = .ok (.invokevirtual 117, 3) := by decide +kernel
theorem d_law_963 : decode m_law.2.1 963 = .ok (.if_icmp .eq (504), 3) := by decide +kernel
theorem d_law_966 : decode m_law.2.1 966 = .ok (.iconst 0, 1) := by decide +kernel
theorem d_law_967 : decode m_law.2.1 967 = .ok (.ireturn, 1) := by decide +kernel
theorem d_law_968 : decode m_law.2.1 968 = .ok (.aload_n 1, 1) := by decide +kernel
theorem d_law_969 : decode m_law.2.1 969 = .ok (.aload_n 0, 1) := by decide +kernel
theorem d_law_970 : decode m_law.2.1 970 = .ok (.iload_n 3, 1) := by decide +kernel
theorem d_law_971 : decode m_law.2.1 971 = .ok (.iconst 1, 1) := by decide +kernel
theorem d_law_972 : decode m_law.2.1 972 = .ok (.iadd, 1) := by decide +kernel
theorem d_law_973 : decode m_law.2.1 973 = .ok (.iaload, 1) := by decide +kernel
theorem d_law_974 : decode m_law.2.1 974 = .ok (.aload_n 0, 1) := by decide +kernel
theorem d_law_975 : decode m_law.2.1 975 = .ok (.iload_n 3, 1) := by decide +kernel
theorem d_law_976 : decode m_law.2.1 976 = .ok (.iconst 2, 1) := by decide +kernel
theorem d_law_977 : decode m_law.2.1 977 = .ok (.iadd, 1) := by decide +kernel
theorem d_law_978 : decode m_law.2.1 978 = .ok (.iaload, 1) := by decide +kernel
theorem d_law_979 : decode m_law.2.1 979 = .ok (.invokevirtual 118, 3) := by decide +kernel
theorem d_law_982 : decode m_law.2.1 982 = .ok (.aload_n 2, 1) := by decide +kernel
theorem d_law_983 : decode m_law.2.1 983 = .ok (.aload_n 0, 1) := by decide +kernel
theorem d_law_984 : decode m_law.2.1 984 = .ok (.iload_n 3, 1) := by decide +kernel
theorem d_law_985 : decode m_law.2.1 985 = .ok (.iconst 1, 1) := by decide +kernel
theorem d_law_986 : decode m_law.2.1 986 = .ok (.iadd, 1) := by decide +kernel
theorem d_law_987 : decode m_law.2.1 987 = .ok (.iaload, 1) := by decide +kernel
theorem d_law_988 : decode m_law.2.1 988 = .ok (.aload_n 0, 1) := by decide +kernel
theorem d_law_989 : decode m_law.2.1 989 = .ok (.iload_n 3, 1) := by decide +kernel
theorem d_law_990 : decode m_law.2.1 990 = .ok (.iconst 2, 1) := by decide +kernel
theorem d_law_991 : decode m_law.2.1 991 = .ok (.iadd, 1) := by decide +kernel
theorem d_law_992 : decode m_law.2.1 992 = .ok (.iaload, 1) := by decide +kernel
theorem d_law_993 : decode m_law.2.1 993 = .ok (.invokevirtual 121, 3) := by decide +kernel
theorem d_law_996 : decode m_law.2.1 996 = .ok (.if_icmp .eq (471), 3) := by decide +kernel
theorem d_law_999 : decode m_law.2.1 999 = .ok (.iconst 0, 1) := by decide +kernel
theorem d_law_1000 : decode m_law.2.1 1000 = .ok (.ireturn, 1) := by decide +kernel
theorem d_law_1001 : decode m_law.2.1 1001 = .ok (.aload_n 1, 1) := by decide +kernel
theorem d_law_1002 : decode m_law.2.1 1002 = .ok (.aload_n 0, 1) := by decide +kernel
theorem d_law_1003 : decode m_law.2.1 1003 = .ok (.iload_n 3, 1) := by decide +kernel
theorem d_law_1004 : decode m_law.2.1 1004 = .ok (.iconst 1, 1) := by decide +kernel
theorem d_law_1005 : decode m_law.2.1 1005 = .ok (.iadd, 1) := by decide +kernel
theorem d_law_1006 : decode m_law.2.1 1006 = .ok (.iaload, 1) := by decide +kernel
theorem d_law_1007 : decode m_law.2.1 1007 = .ok (.invokevirtual 122, 3) := by decide +kernel
theorem d_law_1010 : decode m_law.2.1 1010 = .ok (.aload_n 2, 1) := by decide +kernel
theorem d_law_1011 : decode m_law.2.1 1011 = .ok (.aload_n 0, 1) := by decide +kernel
theorem d_law_1012 : decode m_law.2.1 1012 = .ok (.iload_n 3, 1) := by decide +kernel
theorem d_law_1013 : decode m_law.2.1 1013 = .ok (.iconst 1, 1) := by decide +kernel
theorem d_law_1014 : decode m_law.2.1 1014 = .ok (.iadd, 1) := by decide +kernel
theorem d_law_1015 : decode m_law.2.1 1015 = .ok (.iaload, 1) := by decide +kernel
theorem d_law_1016 : decode m_law.2.1 1016 = .ok (.invokevirtual 125, 3) := by decide +kernel
theorem d_law_1019 : decode m_law.2.1 1019 = .ok (.if_icmp .eq (448), 3) := by decide +kernel
theorem d_law_1022 : decode m_law.2.1 1022 = .ok (.iconst 0, 1) := by decide +kernel
theorem d_law_1023 : decode m_law.2.1 1023 = .ok (.ireturn, 1) := by decide +kernel
theorem d_law_1024 : decode m_law.2.1 1024 = .ok (.aload_n 1, 1) := by decide +kernel
theorem d_law_1025 : decode m_law.2.1 1025 = .ok (.invokevirtual 126, 3) := by decide +kernel
theorem d_law_1028 : decode m_law.2.1 1028 = .ok (.aload_n 2, 1) := by decide +kernel
theorem d_law_1029 : decode m_law.2.1 1029 = .ok (.invokevirtual 129, 3) := by decide +kernel
theorem d_law_1032 : decode m_law.2.1 1032 = .ok (.if_icmp .eq (435), 3) := by decide +kernel
theorem d_law_1035 : decode m_law.2.1 1035 = .ok (.iconst 0, 1) := by decide +kernel
theorem d_law_1036 : decode m_law.2.1 1036 = .ok (.ireturn, 1) := by decide +kernel
theorem d_law_1037 : decode m_law.2.1 1037 = .ok (.aload_n 1, 1) := by decide +kernel
theorem d_law_1038 : decode m_law.2.1 1038 = .ok (.invokevirtual 130, 3) := by decide +kernel
theorem d_law_1041 : decode m_law.2.1 1041 = .ok (.aload_n 2, 1) := by decide +kernel
theorem d_law_1042 : decode m_law.2.1 1042 = .ok (.invokevirtual 133, 3) := by decide +kernel
theorem d_law_1045 : decode m_law.2.1 1045 = .ok (.if_icmp .eq (422), 3) := by decide +kernel
theorem d_law_1048 : decode m_law.2.1 1048 = .ok (.iconst 0, 1) := by decide +kernel
theorem d_law_1049 : decode m_law.2.1 1049 = .ok (.ireturn, 1) := by decide +kernel
theorem d_law_1050 : decode m_law.2.1 1050 = .ok (.aload_n 1, 1) := by decide +kernel
theorem d_law_1051 : decode m_law.2.1 1051 = .ok (.invokevirtual 134, 3) := by decide +kernel
theorem d_law_1054 : decode m_law.2.1 1054 = .ok (.aload_n 2, 1) := by decide +kernel
theorem d_law_1055 : decode m_law.2.1 1055 = .ok (.invokevirtual 137, 3) := by decide +kernel
theorem d_law_1058 : decode m_law.2.1 1058 = .ok (.if_icmp .eq (409), 3) := by decide +kernel
theorem d_law_1061 : decode m_law.2.1 1061 = .ok (.iconst 0, 1) := by decide +kernel
theorem d_law_1062 : decode m_law.2.1 1062 = .ok (.ireturn, 1) := by decide +kernel
theorem d_law_1063 : decode m_law.2.1 1063 = .ok (.aload_n 1, 1) := by decide +kernel
theorem d_law_1064 : decode m_law.2.1 1064 = .ok (.invokevirtual 138, 3) := by decide +kernel
theorem d_law_1067 : decode m_law.2.1 1067 = .ok (.aload_n 2, 1) := by decide +kernel
theorem d_law_1068 : decode m_law.2.1 1068 = .ok (.invokevirtual 141, 3) := by decide +kernel
theorem d_law_1071 : decode m_law.2.1 1071 = .ok (.if_icmp .eq (396), 3) := by decide +kernel
theorem d_law_1074 : decode m_law.2.1 1074 = .ok (.iconst 0, 1) := by decide +kernel
theorem d_law_1075 : decode m_law.2.1 1075 = .ok (.ireturn, 1) := by decide +kernel
theorem d_law_1076 : decode m_law.2.1 1076 = .ok (.aload_n 1, 1) := by decide +kernel
theorem d_law_1077 : decode m_law.2.1 1077 = .ok (.aload_n 0, 1) := by decide +kernel
theorem d_law_1078 : decode m_law.2.1 1078 = .ok (.iload_n 3, 1) := by decide +kernel
theorem d_law_1079 : decode m_law.2.1 1079 = .ok (.iconst 1, 1) := by decide +kernel
theorem d_law_1080 : decode m_law.2.1 1080 = .ok (.iadd, 1) := by decide +kernel
theorem d_law_1081 : decode m_law.2.1 1081 = .ok (.iaload, 1) := by decide +kernel
theorem d_law_1082 : decode m_law.2.1 1082 = .ok (.invokevirtual 142, 3) := by decide +kernel
theorem d_law_1085 : decode m_law.2.1 1085 = .ok (.aload_n 2, 1) := by decide +kernel
theorem d_law_1086 : decode m_law.2.1 1086 = .ok (.aload_n 0, 1) := by decide +kernel
theorem d_law_1087 : decode m_law.2.1 1087 = .ok (.iload_n 3, 1) := by decide +kernel
theorem d_law_1088 : decode m_law.2.1 1088 = .ok (.iconst 1, 1) := by decide +kernel
theorem d_law_1089 : decode m_law.2.1 1089 = .ok (.iadd, 1) := by decide +kernel
theorem d_law_1090 : decode m_law.2.1 1090 = .ok (.iaload, 1) := by decide +kernel
theorem d_law_1091 : decode m_law.2.1 1091 = .ok (.invokevirtual 145, 3) := by decide +kernel
theorem d_law_1094 : decode m_law.2.1 1094 = .ok (.if_icmp .eq (373), 3) := by decide +kernel
theorem d_law_1097 : decode m_law.2.1 1097 = .ok (.iconst 0, 1) := by decide +kernel
theorem d_law_1098 : decode m_law.2.1 1098 = .ok (.ireturn, 1) := by decide +kernel
theorem d_law_1099 : decode m_law.2.1 1099 = .ok (.aload_n 1, 1) := by decide +kernel
theorem d_law_1100 : decode m_law.2.1 1100 = .ok (.aload_n 0, 1) := by decide +kernel
theorem d_law_1101 : decode m_law.2.1 1101 = .ok (.iload_n 3, 1) := by decide +kernel
theorem d_law_1102 : decode m_law.2.1 1102 = .ok (.iconst 1, 1) := by decide +kernel
theorem d_law_1103 : decode m_law.2.1 1103 = .ok (.iadd, 1) := by decide +kernel
theorem d_law_1104 : decode m_law.2.1 1104 = .ok (.iaload, 1) := by decide +kernel
theorem d_law_1105 : decode m_law.2.1 1105 = .ok (.aload_n 0, 1) := by decide +kernel
theorem d_law_1106 : decode m_law.2.1 1106 = .ok (.iload_n 3, 1) := by decide +kernel
theorem d_law_1107 : decode m_law.2.1 1107 = .ok (.iconst 2, 1) := by decide +kernel
theorem d_law_1108 : decode m_law.2.1 1108 = .ok (.iadd, 1) := by decide +kernel
theorem d_law_1109 : decode m_law.2.1 1109 = .ok (.iaload, 1) := by decide +kernel
theorem d_law_1110 : decode m_law.2.1 1110 = .ok (.aload_n 0, 1) := by decide +kernel
theorem d_law_1111 : decode m_law.2.1 1111 = .ok (.iload_n 3, 1) := by decide +kernel
theorem d_law_1112 : decode m_law.2.1 1112 = .ok (.iconst 3, 1) := by decide +kernel
theorem d_law_1113 : decode m_law.2.1 1113 = .ok (.iadd, 1) := by decide +kernel
theorem d_law_1114 : decode m_law.2.1 1114 = .ok (.iaload, 1) := by decide +kernel
theorem d_law_1115 : decode m_law.2.1 1115 = .ok (.invokevirtual 146, 3) := by decide +kernel
theorem d_law_1118 : decode m_law.2.1 1118 = .ok (.aload_n 2, 1) := by decide +kernel
theorem d_law_1119 : decode m_law.2.1 1119 = .ok (.aload_n 0, 1) := by decide +kernel
theorem d_law_1120 : decode m_law.2.1 1120 = .ok (.iload_n 3, 1) := by decide +kernel
theorem d_law_1121 : decode m_law.2.1 1121 = .ok (.iconst 1, 1) := by decide +kernel
theorem d_law_1122 : decode m_law.2.1 1122 = .ok (.iadd, 1) := by decide +kernel
theorem d_law_1123 : decode m_law.2.1 1123 = .ok (.iaload, 1) := by decide +kernel
theorem d_law_1124 : decode m_law.2.1 1124 = .ok (.aload_n 0, 1) := by decide +kernel
theorem d_law_1125 : decode m_law.2.1 1125 = .ok (.iload_n 3, 1) := by decide +kernel
theorem d_law_1126 : decode m_law.2.1 1126 = .ok (.iconst 2, 1) := by decide +kernel
theorem d_law_1127 : decode m_law.2.1 1127 = .ok (.iadd, 1) := by decide +kernel
theorem d_law_1128 : decode m_law.2.1 1128 = .ok (.iaload, 1) := by decide +kernel
theorem d_law_1129 : decode m_law.2.1 1129 = .ok (.aload_n 0, 1) := by decide +kernel
theorem d_law_1130 : decode m_law.2.1 1130 = .ok (.iload_n 3, 1) := by decide +kernel
theorem d_law_1131 : decode m_law.2.1 1131 = .ok (.iconst 3, 1) := by decide +kernel
theorem d_law_1132 : decode m_law.2.1 1132 = .ok (.iadd, 1) := by decide +kernel
theorem d_law_1133 : decode m_law.2.1 1133 = .ok (.iaload, 1) := by decide +kernel
theorem d_law_1134 : decode m_law.2.1 1134 = .ok (.invokevirtual 149, 3) := by decide +kernel
theorem d_law_1137 : decode m_law.2.1 1137 = .ok (.if_icmp .eq (330), 3) := by decide +kernel
theorem d_law_1140 : decode m_law.2.1 1140 = .ok (.iconst 0, 1) := by decide +kernel
theorem d_law_1141 : decode m_law.2.1 1141 = .ok (.ireturn, 1) := by decide +kernel
theorem d_law_1142 : decode m_law.2.1 1142 = .ok (.aload_n 1, 1) := by decide +kernel
theorem d_law_1143 : decode m_law.2.1 1143 = .ok (.aload_n 0, 1) := by decide +kernel
theorem d_law_1144 : decode m_law.2.1 1144 = .ok (.iload_n 3, 1) := by decide +kernel
theorem d_law_1145 : decode m_law.2.1 1145 = .ok (.iconst 1, 1) := by decide +kernel
theorem d_law_1146 : decode m_law.2.1 1146 = .ok (.iadd, 1) := by decide +kernel
theorem d_law_1147 : decode m_law.2.1 1147 = .ok (.iaload, 1) := by decide +kernel
theorem d_law_1148 : decode m_law.2.1 1148 = .ok (.invokevirtual 150, 3) := by decide +kernel
theorem d_law_1151 : decode m_law.2.1 1151 = .ok (.aload_n 2, 1) := by decide +kernel
theorem d_law_1152 : decode m_law.2.1 1152 = .ok (.aload_n 0, 1) := by decide +kernel
theorem d_law_1153 : decode m_law.2.1 1153 = .ok (.iload_n 3, 1) := by decide +kernel
theorem d_law_1154 : decode m_law.2.1 1154 = .ok (.iconst 1, 1) := by decide +kernel
theorem d_law_1155 : decode m_law.2.1 1155 = .ok (.iadd, 1) := by decide +kernel
theorem d_law_1156 : decode m_law.2.1 1156 = .ok (.iaload, 1) := by decide +kernel
theorem d_law_1157 : decode m_law.2.1 1157 = .ok (.invokevirtual 153, 3) := by decide +kernel
theorem d_law_1160 : decode m_law.2.1 1160 = .ok (.if_icmp .eq (307), 3) := by decide +kernel
theorem d_law_1163 : decode m_law.2.1 1163 = .ok (.iconst 0, 1) := by decide +kernel
theorem d_law_1164 : decode m_law.2.1 1164 = .ok (.ireturn, 1) := by decide +kernel
theorem d_law_1165 : decode m_law.2.1 1165 = .ok (.aload_n 1, 1) := by decide +kernel
theorem d_law_1166 : decode m_law.2.1 1166 = .ok (.aload_n 0, 1) := by decide +kernel
theorem d_law_1167 : decode m_law.2.1 1167 = .ok (.iload_n 3, 1) := by decide +kernel
theorem d_law_1168 : decode m_law.2.1 1168 = .ok (.iconst 1, 1) := by decide +kernel
theorem d_law_1169 : decode m_law.2.1 1169 = .ok (.iadd, 1) := by decide +kernel
theorem d_law_1170 : decode m_law.2.1 1170 = .ok (.iaload, 1) := by decide +kernel
theorem d_law_1171 : decode m_law.2.1 1171 = .ok (.aload_n 0, 1) := by decide +kernel
theorem d_law_1172 : decode m_law.2.1 1172 = .ok (.iload_n 3, 1) := by decide +kernel
theorem d_law_1173 : decode m_law.2.1 1173 = .ok (.iconst 2, 1) := by decide +kernel
theorem d_law_1174 : decode m_law.2.1 1174 = .ok (.iadd, 1) := by decide +kernel
theorem d_law_1175 : decode m_law.2.1 1175 = .ok (.iaload, 1) := by decide +kernel
theorem d_law_1176 : decode m_law.2.1 1176 = .ok (.invokevirtual 154, 3) := by decide +kernel
theorem d_law_1179 : decode m_law.2.1 1179 = .ok (.aload_n 2, 1) := by decide +kernel
theorem d_law_1180 : decode m_law.2.1 1180 = .ok (.aload_n 0, 1) := by decide +kernel
theorem d_law_1181 : decode m_law.2.1 1181 = .ok (.iload_n 3, 1) := by decide +kernel
theorem d_law_1182 : decode m_law.2.1 1182 = .ok (.iconst 1, 1) := by decide +kernel
theorem d_law_1183 : decode m_law.2.1 1183 = .ok (.iadd, 1) := by decide +kernel
theorem d_law_1184 : decode m_law.2.1 1184 = .ok (.iaload, 1) := by decide +kernel
theorem d_law_1185 : decode m_law.2.1 1185 = .ok (.aload_n 0, 1) := by decide +kernel
theorem d_law_1186 : decode m_law.2.1 1186 = .ok (.iload_n 3, 1) := by decide +kernel
theorem d_law_1187 : decode m_law.2.1 1187 = .ok (.iconst 2, 1) := by decide +kernel
theorem d_law_1188 : decode m_law.2.1 1188 = .ok (.iadd, 1) := by decide +kernel
theorem d_law_1189 : decode m_law.2.1 1189 = .ok (.iaload, 1) := by decide +kernel
theorem d_law_1190 : decode m_law.2.1 1190 = .ok (.invokevirtual 157, 3) := by decide +kernel
theorem d_law_1193 : decode m_law.2.1 1193 = .ok (.if_icmp .eq (274), 3) := by decide +kernel
theorem d_law_1196 : decode m_law.2.1 1196 = .ok (.iconst 0, 1) := by decide +kernel
theorem d_law_1197 : decode m_law.2.1 1197 = .ok (.ireturn, 1) := by decide +kernel
theorem d_law_1198 : decode m_law.2.1 1198 = .ok (.aload_n 1, 1) := by decide +kernel
theorem d_law_1199 : decode m_law.2.1 1199 = .ok (.aload_n 0, 1) := by decide +kernel
theorem d_law_1200 : decode m_law.2.1 1200 = .ok (.iload_n 3, 1) := by decide +kernel
theorem d_law_1201 : decode m_law.2.1 1201 = .ok (.iconst 1, 1) := by decide +kernel
theorem d_law_1202 : decode m_law.2.1 1202 = .ok (.iadd, 1) := by decide +kernel
theorem d_law_1203 : decode m_law.2.1 1203 = .ok (.iaload, 1) := by decide +kernel
theorem d_law_1204 : decode m_law.2.1 1204 = .ok (.aload_n 0, 1) := by decide +kernel
theorem d_law_1205 : decode m_law.2.1 1205 = .ok (.iload_n 3, 1) := by decide +kernel
theorem d_law_1206 : decode m_law.2.1 1206 = .ok (.iconst 2, 1) := by decide +kernel
theorem d_law_1207 : decode m_law.2.1 1207 = .ok (.iadd, 1) := by decide +kernel
theorem d_law_1208 : decode m_law.2.1 1208 = .ok (.iaload, 1) := by decide +kernel
theorem d_law_1209 : decode m_law.2.1 1209 = .ok (.aload_n 0, 1) := by decide +kernel
theorem d_law_1210 : decode m_law.2.1 1210 = .ok (.iload_n 3, 1) := by decide +kernel
theorem d_law_1211 : decode m_law.2.1 1211 = .ok (.iconst 3, 1) := by decide +kernel
theorem d_law_1212 : decode m_law.2.1 1212 = .ok (.iadd, 1) := by decide +kernel
theorem d_law_1213 : decode m_law.2.1 1213 = .ok (.iaload, 1) := by decide +kernel
theorem d_law_1214 : decode m_law.2.1 1214 = .ok (.invokevirtual 158, 3) := by decide +kernel
theorem d_law_1217 : decode m_law.2.1 1217 = .ok (.aload_n 2, 1) := by decide +kernel
theorem d_law_1218 : decode m_law.2.1 1218 = .ok (.aload_n 0, 1) := by decide +kernel
theorem d_law_1219 : decode m_law.2.1 1219 = .ok (.iload_n 3, 1) := by decide +kernel
theorem d_law_1220 : decode m_law.2.1 1220 = .ok (.iconst 1, 1) := by decide +kernel
theorem d_law_1221 : decode m_law.2.1 1221 = .ok (.iadd, 1) := by decide +kernel
theorem d_law_1222 : decode m_law.2.1 1222 = .ok (.iaload, 1) := by decide +kernel
theorem d_law_1223 : decode m_law.2.1 1223 = .ok (.aload_n 0, 1) := by decide +kernel
theorem d_law_1224 : decode m_law.2.1 1224 = .ok (.iload_n 3, 1) := by decide +kernel
theorem d_law_1225 : decode m_law.2.1 1225 = .ok (.iconst 2, 1) := by decide +kernel
theorem d_law_1226 : decode m_law.2.1 1226 = .ok (.iadd, 1) := by decide +kernel
theorem d_law_1227 : decode m_law.2.1 1227 = .ok (.iaload, 1) := by decide +kernel
theorem d_law_1228 : decode m_law.2.1 1228 = .ok (.aload_n 0, 1) := by decide +kernel
theorem d_law_1229 : decode m_law.2.1 1229 = .ok (.iload_n 3, 1) := by decide +kernel
theorem d_law_1230 : decode m_law.2.1 1230 = .ok (.iconst 3, 1) := by decide +kernel
theorem d_law_1231 : decode m_law.2.1 1231 = .ok (.iadd, 1) := by decide +kernel
theorem d_law_1232 : decode m_law.2.1 1232 = .ok (.iaload, 1) := by decide +kernel
theorem d_law_1233 : decode m_law.2.1 1233 = .ok (.invokevirtual 161, 3) := by decide +kernel
theorem d_law_1236 : decode m_law.2.1 1236 = .ok (.if_icmp .eq (231), 3) := by decide +kernel
theorem d_law_1239 : decode m_law.2.1 1239 = .ok (.iconst 0, 1) := by decide +kernel
theorem d_law_1240 : decode m_law.2.1 1240 = .ok (.ireturn, 1) := by decide +kernel
theorem d_law_1241 : decode m_law.2.1 1241 = .ok (.aload_n 1, 1) := by decide +kernel
theorem d_law_1242 : decode m_law.2.1 1242 = .ok (.aload_n 0, 1) := by decide +kernel
theorem d_law_1243 : decode m_law.2.1 1243 = .ok (.iload_n 3, 1) := by decide +kernel
theorem d_law_1244 : decode m_law.2.1 1244 = .ok (.iconst 1, 1) := by decide +kernel
theorem d_law_1245 : decode m_law.2.1 1245 = .ok (.iadd, 1) := by decide +kernel
theorem d_law_1246 : decode m_law.2.1 1246 = .ok (.iaload, 1) := by decide +kernel
theorem d_law_1247 : decode m_law.2.1 1247 = .ok (.aload_n 0, 1) := by decide +kernel
theorem d_law_1248 : decode m_law.2.1 1248 = .ok (.iload_n 3, 1) := by decide +kernel
theorem d_law_1249 : decode m_law.2.1 1249 = .ok (.iconst 2, 1) := by decide +kernel
theorem d_law_1250 : decode m_law.2.1 1250 = .ok (.iadd, 1) := by decide +kernel
theorem d_law_1251 : decode m_law.2.1 1251 = .ok (.iaload, 1) := by decide +kernel
theorem d_law_1252 : decode m_law.2.1 1252 = .ok (.aload_n 0, 1) := by decide +kernel
theorem d_law_1253 : decode m_law.2.1 1253 = .ok (.iload_n 3, 1) := by decide +kernel
theorem d_law_1254 : decode m_law.2.1 1254 = .ok (.iconst 3, 1) := by decide +kernel
theorem d_law_1255 : decode m_law.2.1 1255 = .ok (.iadd, 1) := by decide +kernel
theorem d_law_1256 : decode m_law.2.1 1256 = .ok (.iaload, 1) := by decide +kernel
theorem d_law_1257 : decode m_law.2.1 1257 = .ok (.i2l, 1) := by decide +kernel
theorem d_law_1258 : decode m_law.2.1 1258 = .ok (.bipush (32), 2) := by decide +kernel
theorem d_law_1260 : decode m_law.2.1 1260 = .ok (.lshl, 1) := by decide +kernel
theorem d_law_1261 : decode m_law.2.1 1261 = .ok (.aload_n 0, 1) := by decide +kernel
theorem d_law_1262 : decode m_law.2.1 1262 = .ok (.iload_n 3, 1) := by decide +kernel
theorem d_law_1263 : decode m_law.2.1 1263 = .ok (.iconst 4, 1) := by decide +kernel
theorem d_law_1264 : decode m_law.2.1 1264 = .ok (.iadd, 1) := by decide +kernel
theorem d_law_1265 : decode m_law.2.1 1265 = .ok (.iaload, 1) := by decide +kernel
theorem d_law_1266 : decode m_law.2.1 1266 = .ok (.i2l, 1) := by decide +kernel
theorem d_law_1267 : decode m_law.2.1 1267 = .ok (.ldc2_w 162, 3) := by decide +kernel
theorem d_law_1270 : decode m_law.2.1 1270 = .ok (.land, 1) := by decide +kernel
theorem d_law_1271 : decode m_law.2.1 1271 = .ok (.lor, 1) := by decide +kernel
theorem d_law_1272 : decode m_law.2.1 1272 = .ok (.invokevirtual 164, 3) := by decide +kernel
theorem d_law_1275 : decode m_law.2.1 1275 = .ok (.aload_n 2, 1) := by decide +kernel
theorem d_law_1276 : decode m_law.2.1 1276 = .ok (.aload_n 0, 1) := by decide +kernel
theorem d_law_1277 : decode m_law.2.1 1277 = .ok (.iload_n 3, 1) := by decide +kernel
theorem d_law_1278 : decode m_law.2.1 1278 = .ok (.iconst 1, 1) := by decide +kernel
theorem d_law_1279 : decode m_law.2.1 1279 = .ok (.iadd, 1) := by decide +kernel
theorem d_law_1280 : decode m_law.2.1 1280 = .ok (.iaload, 1) := by decide +kernel
theorem d_law_1281 : decode m_law.2.1 1281 = .ok (.aload_n 0, 1) := by decide +kernel
theorem d_law_1282 : decode m_law.2.1 1282 = .ok (.iload_n 3, 1) := by decide +kernel
theorem d_law_1283 : decode m_law.2.1 1283 = .ok (.iconst 2, 1) := by decide +kernel
theorem d_law_1284 : decode m_law.2.1 1284 = .ok (.iadd, 1) := by decide +kernel
theorem d_law_1285 : decode m_law.2.1 1285 = .ok (.iaload, 1) := by decide +kernel
theorem d_law_1286 : decode m_law.2.1 1286 = .ok (.aload_n 0, 1) := by decide +kernel
theorem d_law_1287 : decode m_law.2.1 1287 = .ok (.iload_n 3, 1) := by decide +kernel
theorem d_law_1288 : decode m_law.2.1 1288 = .ok (.iconst 3, 1) := by decide +kernel
theorem d_law_1289 : decode m_law.2.1 1289 = .ok (.iadd, 1) := by decide +kernel
theorem d_law_1290 : decode m_law.2.1 1290 = .ok (.iaload, 1) := by decide +kernel
theorem d_law_1291 : decode m_law.2.1 1291 = .ok (.i2l, 1) := by decide +kernel
theorem d_law_1292 : decode m_law.2.1 1292 = .ok (.bipush (32), 2) := by decide +kernel
theorem d_law_1294 : decode m_law.2.1 1294 = .ok (.lshl, 1) := by decide +kernel
theorem d_law_1295 : decode m_law.2.1 1295 = .ok (.aload_n 0, 1) := by decide +kernel
theorem d_law_1296 : decode m_law.2.1 1296 = .ok (.iload_n 3, 1) := by decide +kernel
theorem d_law_1297 : decode m_law.2.1 1297 = .ok (.iconst 4, 1) := by decide +kernel
theorem d_law_1298 : decode m_law.2.1 1298 = .ok (.iadd, 1) := by decide +kernel
theorem d_law_1299 : decode m_law.2.1 1299 = .ok (.iaload, 1) := by decide +kernel
theorem d_law_1300 : decode m_law.2.1 1300 = .ok (.i2l, 1) := by decide +kernel
theorem d_law_1301 : decode m_law.2.1 1301 = .ok (.ldc2_w 162, 3) := by decide +kernel
theorem d_law_1304 : decode m_law.2.1 1304 = .ok (.land, 1) := by decide +kernel
theorem d_law_1305 : decode m_law.2.1 1305 = .ok (.lor, 1) := by decide +kernel
theorem d_law_1306 : decode m_law.2.1 1306 = .ok (.invokevirtual 168, 3) := by decide +kernel
theorem d_law_1309 : decode m_law.2.1 1309 = .ok (.if_icmp .eq (158), 3) := by decide +kernel
theorem d_law_1312 : decode m_law.2.1 1312 = .ok (.iconst 0, 1) := by decide +kernel
theorem d_law_1313 : decode m_law.2.1 1313 = .ok (.ireturn, 1) := by decide +kernel
theorem d_law_1314 : decode m_law.2.1 1314 = .ok (.aload_n 1, 1) := by decide +kernel
theorem d_law_1315 : decode m_law.2.1 1315 = .ok (.aload_n 0, 1) := by decide +kernel
theorem d_law_1316 : decode m_law.2.1 1316 = .ok (.iload_n 3, 1) := by decide +kernel
theorem d_law_1317 : decode m_law.2.1 1317 = .ok (.iconst 1, 1) := by decide +kernel
theorem d_law_1318 : decode m_law.2.1 1318 = .ok (.iadd, 1) := by decide +kernel
theorem d_law_1319 : decode m_law.2.1 1319 = .ok (.iaload, 1) := by decide +kernel
theorem d_law_1320 : decode m_law.2.1 1320 = .ok (.aload_n 0, 1) := by decide +kernel
theorem d_law_1321 : decode m_law.2.1 1321 = .ok (.iload_n 3, 1) := by decide +kernel
theorem d_law_1322 : decode m_law.2.1 1322 = .ok (.iconst 2, 1) := by decide +kernel
theorem d_law_1323 : decode m_law.2.1 1323 = .ok (.iadd, 1) := by decide +kernel
theorem d_law_1324 : decode m_law.2.1 1324 = .ok (.iaload, 1) := by decide +kernel
theorem d_law_1325 : decode m_law.2.1 1325 = .ok (.invokevirtual 169, 3) := by decide +kernel
theorem d_law_1328 : decode m_law.2.1 1328 = .ok (.aload_n 2, 1) := by decide +kernel
theorem d_law_1329 : decode m_law.2.1 1329 = .ok (.aload_n 0, 1) := by decide +kernel
theorem d_law_1330 : decode m_law.2.1 1330 = .ok (.iload_n 3, 1) := by decide +kernel
theorem d_law_1331 : decode m_law.2.1 1331 = .ok (.iconst 1, 1) := by decide +kernel
theorem d_law_1332 : decode m_law.2.1 1332 = .ok (.iadd, 1) := by decide +kernel
theorem d_law_1333 : decode m_law.2.1 1333 = .ok (.iaload, 1) := by decide +kernel
theorem d_law_1334 : decode m_law.2.1 1334 = .ok (.aload_n 0, 1) := by decide +kernel
theorem d_law_1335 : decode m_law.2.1 1335 = .ok (.iload_n 3, 1) := by decide +kernel
theorem d_law_1336 : decode m_law.2.1 1336 = .ok (.iconst 2, 1) := by decide +kernel
theorem d_law_1337 : decode m_law.2.1 1337 = .ok (.iadd, 1) := by decide +kernel
theorem d_law_1338 : decode m_law.2.1 1338 = .ok (.iaload, 1) := by decide +kernel
theorem d_law_1339 : decode m_law.2.1 1339 = .ok (.invokevirtual 173, 3) := by decide +kernel
theorem d_law_1342 : decode m_law.2.1 1342 = .ok (.lcmp, 1) := by decide +kernel
theorem d_law_1343 : decode m_law.2.1 1343 = .ok (.ifCond .eq (124), 3) := by decide +kernel
theorem d_law_1346 : decode m_law.2.1 1346 = .ok (.iconst 0, 1) := by decide +kernel
theorem d_law_1347 : decode m_law.2.1 1347 = .ok (.ireturn, 1) := by decide +kernel
theorem d_law_1348 : decode m_law.2.1 1348 = .ok (.aload_n 1, 1) := by decide +kernel
theorem d_law_1349 : decode m_law.2.1 1349 = .ok (.aload_n 0, 1) := by decide +kernel
theorem d_law_1350 : decode m_law.2.1 1350 = .ok (.iload_n 3, 1) := by decide +kernel
theorem d_law_1351 : decode m_law.2.1 1351 = .ok (.iconst 1, 1) := by decide +kernel
theorem d_law_1352 : decode m_law.2.1 1352 = .ok (.iadd, 1) := by decide +kernel
theorem d_law_1353 : decode m_law.2.1 1353 = .ok (.iaload, 1) := by decide +kernel
theorem d_law_1354 : decode m_law.2.1 1354 = .ok (.aload_n 0, 1) := by decide +kernel
theorem d_law_1355 : decode m_law.2.1 1355 = .ok (.iload_n 3, 1) := by decide +kernel
theorem d_law_1356 : decode m_law.2.1 1356 = .ok (.iconst 2, 1) := by decide +kernel
theorem d_law_1357 : decode m_law.2.1 1357 = .ok (.iadd, 1) := by decide +kernel
theorem d_law_1358 : decode m_law.2.1 1358 = .ok (.iaload, 1) := by decide +kernel
theorem d_law_1359 : decode m_law.2.1 1359 = .ok (.aload_n 0, 1) := by decide +kernel
theorem d_law_1360 : decode m_law.2.1 1360 = .ok (.iload_n 3, 1) := by decide +kernel
theorem d_law_1361 : decode m_law.2.1 1361 = .ok (.iconst 3, 1) := by decide +kernel
theorem d_law_1362 : decode m_law.2.1 1362 = .ok (.iadd, 1) := by decide +kernel
theorem d_law_1363 : decode m_law.2.1 1363 = .ok (.iaload, 1) := by decide +kernel
theorem d_law_1364 : decode m_law.2.1 1364 = .ok (.aload_n 0, 1) := by decide +kernel
theorem d_law_1365 : decode m_law.2.1 1365 = .ok (.iload_n 3, 1) := by decide +kernel
theorem d_law_1366 : decode m_law.2.1 1366 = .ok (.iconst 4, 1) := by decide +kernel
theorem d_law_1367 : decode m_law.2.1 1367 = .ok (.iadd, 1) := by decide +kernel
theorem d_law_1368 : decode m_law.2.1 1368 = .ok (.iaload, 1) := by decide +kernel
theorem d_law_1369 : decode m_law.2.1 1369 = .ok (.aload_n 0, 1) := by decide +kernel
theorem d_law_1370 : decode m_law.2.1 1370 = .ok (.iload_n 3, 1) := by decide +kernel
theorem d_law_1371 : decode m_law.2.1 1371 = .ok (.iconst 5, 1) := by decide +kernel
theorem d_law_1372 : decode m_law.2.1 1372 = .ok (.iadd, 1) := by decide +kernel
theorem d_law_1373 : decode m_law.2.1 1373 = .ok (.iaload, 1) := by decide +kernel
theorem d_law_1374 : decode m_law.2.1 1374 = .ok (.invokevirtual 174, 3) := by decide +kernel
theorem d_law_1377 : decode m_law.2.1 1377 = .ok (.aload_n 2, 1) := by decide +kernel
theorem d_law_1378 : decode m_law.2.1 1378 = .ok (.aload_n 0, 1) := by decide +kernel
theorem d_law_1379 : decode m_law.2.1 1379 = .ok (.iload_n 3, 1) := by decide +kernel
theorem d_law_1380 : decode m_law.2.1 1380 = .ok (.iconst 1, 1) := by decide +kernel
theorem d_law_1381 : decode m_law.2.1 1381 = .ok (.iadd, 1) := by decide +kernel
theorem d_law_1382 : decode m_law.2.1 1382 = .ok (.iaload, 1) := by decide +kernel
theorem d_law_1383 : decode m_law.2.1 1383 = .ok (.aload_n 0, 1) := by decide +kernel
theorem d_law_1384 : decode m_law.2.1 1384 = .ok (.iload_n 3, 1) := by decide +kernel
theorem d_law_1385 : decode m_law.2.1 1385 = .ok (.iconst 2, 1) := by decide +kernel
theorem d_law_1386 : decode m_law.2.1 1386 = .ok (.iadd, 1) := by decide +kernel
theorem d_law_1387 : decode m_law.2.1 1387 = .ok (.iaload, 1) := by decide +kernel
theorem d_law_1388 : decode m_law.2.1 1388 = .ok (.aload_n 0, 1) := by decide +kernel
theorem d_law_1389 : decode m_law.2.1 1389 = .ok (.iload_n 3, 1) := by decide +kernel
theorem d_law_1390 : decode m_law.2.1 1390 = .ok (.iconst 3, 1) := by decide +kernel
theorem d_law_1391 : decode m_law.2.1 1391 = .ok (.iadd, 1) := by decide +kernel
theorem d_law_1392 : decode m_law.2.1 1392 = .ok (.iaload, 1) := by decide +kernel
theorem d_law_1393 : decode m_law.2.1 1393 = .ok (.aload_n 0, 1) := by decide +kernel
theorem d_law_1394 : decode m_law.2.1 1394 = .ok (.iload_n 3, 1) := by decide +kernel
theorem d_law_1395 : decode m_law.2.1 1395 = .ok (.iconst 4, 1) := by decide +kernel
theorem d_law_1396 : decode m_law.2.1 1396 = .ok (.iadd, 1) := by decide +kernel
theorem d_law_1397 : decode m_law.2.1 1397 = .ok (.iaload, 1) := by decide +kernel
theorem d_law_1398 : decode m_law.2.1 1398 = .ok (.aload_n 0, 1) := by decide +kernel
theorem d_law_1399 : decode m_law.2.1 1399 = .ok (.iload_n 3, 1) := by decide +kernel
theorem d_law_1400 : decode m_law.2.1 1400 = .ok (.iconst 5, 1) := by decide +kernel
theorem d_law_1401 : decode m_law.2.1 1401 = .ok (.iadd, 1) := by decide +kernel
theorem d_law_1402 : decode m_law.2.1 1402 = .ok (.iaload, 1) := by decide +kernel
theorem d_law_1403 : decode m_law.2.1 1403 = .ok (.invokevirtual 178, 3) := by decide +kernel
theorem d_law_1406 : decode m_law.2.1 1406 = .ok (.if_icmp .eq (61), 3) := by decide +kernel
theorem d_law_1409 : decode m_law.2.1 1409 = .ok (.iconst 0, 1) := by decide +kernel
theorem d_law_1410 : decode m_law.2.1 1410 = .ok (.ireturn, 1) := by decide +kernel
theorem d_law_1411 : decode m_law.2.1 1411 = .ok (.aload_n 1, 1) := by decide +kernel
theorem d_law_1412 : decode m_law.2.1 1412 = .ok (.aload_n 0, 1) := by decide +kernel
theorem d_law_1413 : decode m_law.2.1 1413 = .ok (.iload_n 3, 1) := by decide +kernel
theorem d_law_1414 : decode m_law.2.1 1414 = .ok (.iconst 1, 1) := by decide +kernel
theorem d_law_1415 : decode m_law.2.1 1415 = .ok (.iadd, 1) := by decide +kernel
theorem d_law_1416 : decode m_law.2.1 1416 = .ok (.iaload, 1) := by decide +kernel
theorem d_law_1417 : decode m_law.2.1 1417 = .ok (.aload_n 0, 1) := by decide +kernel
theorem d_law_1418 : decode m_law.2.1 1418 = .ok (.iload_n 3, 1) := by decide +kernel
theorem d_law_1419 : decode m_law.2.1 1419 = .ok (.iconst 2, 1) := by decide +kernel
theorem d_law_1420 : decode m_law.2.1 1420 = .ok (.iadd, 1) := by decide +kernel
theorem d_law_1421 : decode m_law.2.1 1421 = .ok (.iaload, 1) := by decide +kernel
theorem d_law_1422 : decode m_law.2.1 1422 = .ok (.invokevirtual 179, 3) := by decide +kernel
theorem d_law_1425 : decode m_law.2.1 1425 = .ok (.aload_n 2, 1) := by decide +kernel
theorem d_law_1426 : decode m_law.2.1 1426 = .ok (.aload_n 0, 1) := by decide +kernel
theorem d_law_1427 : decode m_law.2.1 1427 = .ok (.iload_n 3, 1) := by decide +kernel
theorem d_law_1428 : decode m_law.2.1 1428 = .ok (.iconst 1, 1) := by decide +kernel
theorem d_law_1429 : decode m_law.2.1 1429 = .ok (.iadd, 1) := by decide +kernel
theorem d_law_1430 : decode m_law.2.1 1430 = .ok (.iaload, 1) := by decide +kernel
theorem d_law_1431 : decode m_law.2.1 1431 = .ok (.aload_n 0, 1) := by decide +kernel
theorem d_law_1432 : decode m_law.2.1 1432 = .ok (.iload_n 3, 1) := by decide +kernel
theorem d_law_1433 : decode m_law.2.1 1433 = .ok (.iconst 2, 1) := by decide +kernel
theorem d_law_1434 : decode m_law.2.1 1434 = .ok (.iadd, 1) := by decide +kernel
theorem d_law_1435 : decode m_law.2.1 1435 = .ok (.iaload, 1) := by decide +kernel
theorem d_law_1436 : decode m_law.2.1 1436 = .ok (.invokevirtual 182, 3) := by decide +kernel
theorem d_law_1439 : decode m_law.2.1 1439 = .ok (.if_icmp .eq (28), 3) := by decide +kernel
theorem d_law_1442 : decode m_law.2.1 1442 = .ok (.iconst 0, 1) := by decide +kernel
theorem d_law_1443 : decode m_law.2.1 1443 = .ok (.ireturn, 1) := by decide +kernel
theorem d_law_1444 : decode m_law.2.1 1444 = .ok (.aload_n 1, 1) := by decide +kernel
theorem d_law_1445 : decode m_law.2.1 1445 = .ok (.aload_n 0, 1) := by decide +kernel
theorem d_law_1446 : decode m_law.2.1 1446 = .ok (.iload_n 3, 1) := by decide +kernel
theorem d_law_1447 : decode m_law.2.1 1447 = .ok (.iconst 1, 1) := by decide +kernel
theorem d_law_1448 : decode m_law.2.1 1448 = .ok (.iadd, 1) := by decide +kernel
theorem d_law_1449 : decode m_law.2.1 1449 = .ok (.iaload, 1) := by decide +kernel
theorem d_law_1450 : decode m_law.2.1 1450 = .ok (.invokevirtual 183, 3) := by decide +kernel
theorem d_law_1453 : decode m_law.2.1 1453 = .ok (.aload_n 2, 1) := by decide +kernel
theorem d_law_1454 : decode m_law.2.1 1454 = .ok (.aload_n 0, 1) := by decide +kernel
theorem d_law_1455 : decode m_law.2.1 1455 = .ok (.iload_n 3, 1) := by decide +kernel
theorem d_law_1456 : decode m_law.2.1 1456 = .ok (.iconst 1, 1) := by decide +kernel
theorem d_law_1457 : decode m_law.2.1 1457 = .ok (.iadd, 1) := by decide +kernel
theorem d_law_1458 : decode m_law.2.1 1458 = .ok (.iaload, 1) := by decide +kernel
theorem d_law_1459 : decode m_law.2.1 1459 = .ok (.invokevirtual 186, 3) := by decide +kernel
theorem d_law_1462 : decode m_law.2.1 1462 = .ok (.if_icmp .eq (5), 3) := by decide +kernel
theorem d_law_1465 : decode m_law.2.1 1465 = .ok (.iconst 0, 1) := by decide +kernel
theorem d_law_1466 : decode m_law.2.1 1466 = .ok (.ireturn, 1) := by decide +kernel
def f_law_j212 (XL : Nat) (xs : Nat → Int32) (k18 : Int32 → gS → Option Int32) (v3 : Int32) (σ : gS) : Option Int32 :=
  if gix (v3 + (1 : Int32)) XL then (f_T_citizen (xs (v3 + (1 : Int32)).toNatClampNeg) σ).bind fun q5 => if gix (v3 + (1 : Int32)) XL then (f_M_citizen (xs (v3 + (1 : Int32)).toNatClampNeg) q5.2).bind fun q7 => if q5.1 = q7.1 then k18 (v3 + (6 : Int32)) q7.2 else some (0 : Int32) else none else none
theorem s_law_j212 (XL : Nat) (xs : Nat → Int32) (k18 : Int32 → gS → Option Int32) (hk18 : ∀ (v3 : Int32) (τ : gS), SL XL xs 18 [some (.ref 2000), some (.ref 0), some (.ref 59), some (.int v3)] [] τ (k18 v3 τ)) (v3 : Int32) (σ : gS) : SL XL xs 212 [some (.ref 2000), some (.ref 0), some (.ref 59), some (.int v3)] [] σ (f_law_j212 XL xs k18 v3 σ) := by
  unfold f_law_j212
  refine SL.of1 (pc2 := 213) (fun Q => gl_aload_n d_law_212 rfl) ?_
  refine SL.of1 (pc2 := 214) (fun Q => gl_aload_n d_law_213 rfl) ?_
  refine SL.of1 (pc2 := 215) (fun Q => gl_iload_n d_law_214 rfl) ?_
  refine SL.of1 (pc2 := 216) (fun Q => gl_iconst (v := (1 : Int32)) d_law_215 (by decide)) ?_
  refine SL.of1 (pc2 := 217) (fun Q => gl_iadd d_law_216) ?_
  refine SL.chk (fun h4 => ?_)
  refine SL.of1 (pc2 := 218) (fun Q => gl_sald (gix_in h4) d_law_217) ?_
  refine SL.call_wI (pc3 := 221) rfl (c_T_citizen 1000 (by decide) (xs (v3 + (1 : Int32)).toNatClampNeg) σ) (fun Q => gl_callV (M2 := m_T_citizen) (vs := [.int (xs (v3 + (1 : Int32)).toNatClampNeg)]) (st := []) lv_RL_13 gk_0 rfl rfl (Nat.le_of_ble_eq_true rfl) (Nat.le_of_ble_eq_true rfl) rfl d_law_218) (fun q5 => ?_)
  refine SL.of1 (pc2 := 222) (fun Q => gl_aload_n d_law_221 rfl) ?_
  refine SL.of1 (pc2 := 223) (fun Q => gl_aload_n d_law_222 rfl) ?_
  refine SL.of1 (pc2 := 224) (fun Q => gl_iload_n d_law_223 rfl) ?_
  refine SL.of1 (pc2 := 225) (fun Q => gl_iconst (v := (1 : Int32)) d_law_224 (by decide)) ?_
  refine SL.of1 (pc2 := 226) (fun Q => gl_iadd d_law_225) ?_
  refine SL.chk (fun h6 => ?_)
  refine SL.of1 (pc2 := 227) (fun Q => gl_sald (gix_in h6) d_law_226) ?_
  refine SL.call_wI (pc3 := 230) rfl (c_M_citizen 1000 (by decide) (xs (v3 + (1 : Int32)).toNatClampNeg) q5.2) (fun Q => gl_callV (M2 := m_M_citizen) (vs := [.int (xs (v3 + (1 : Int32)).toNatClampNeg)]) (st := [.int q5.1]) lv_RL_17 gk_59 rfl rfl (Nat.le_of_ble_eq_true rfl) (Nat.le_of_ble_eq_true rfl) rfl d_law_227) (fun q7 => ?_)
  refine SL.br (c := q5.1 = q7.1) (t := 1467) (e := 233) (fun Q kt kf => gl_icmp_eq d_law_230 rfl kt kf) (fun h8 => ?_) (fun h8 => ?_)
  · refine SL.of1 (pc2 := 1470) (L2 := [some (.ref 2000), some (.ref 0), some (.ref 59), some (.int (v3 + (6 : Int32)))]) (fun Q => gl_iinc d_law_1467 rfl (congrArg (fun z => v3 + z) (by decide)) (Nat.le_of_ble_eq_true rfl) rfl) ?_
    refine SL.of1 (pc2 := 18) (fun Q => gl_goto d_law_1470 rfl) ?_
    exact SL.wk (L2 := [some (.ref 2000), some (.ref 0), some (.ref 59), some (.int (v3 + (6 : Int32)))]) (And.intro rfl (And.intro rfl (And.intro rfl (And.intro rfl trivial)))) (hk18 (v3 + (6 : Int32)) q7.2)
  · refine SL.of1 (pc2 := 234) (fun Q => gl_iconst (v := (0 : Int32)) d_law_233 (by decide)) ?_
    exact SL.ret0
def f_law_j235 (XL : Nat) (xs : Nat → Int32) (k18 : Int32 → gS → Option Int32) (v3 : Int32) (σ : gS) : Option Int32 :=
  if gix (v3 + (1 : Int32)) XL then if gix (v3 + (2 : Int32)) XL then if gix (v3 + (3 : Int32)) XL then (f_T_citizens (xs (v3 + (1 : Int32)).toNatClampNeg) (xs (v3 + (2 : Int32)).toNatClampNeg) (xs (v3 + (3 : Int32)).toNatClampNeg) σ).bind fun q13 => if gix (v3 + (1 : Int32)) XL then if gix (v3 + (2 : Int32)) XL then if gix (v3 + (3 : Int32)) XL then (f_M_citizens (xs (v3 + (1 : Int32)).toNatClampNeg) (xs (v3 + (2 : Int32)).toNatClampNeg) (xs (v3 + (3 : Int32)).toNatClampNeg) q13.2).bind fun q17 => if q13.1 = q17.1 then k18 (v3 + (6 : Int32)) q17.2 else some (0 : Int32) else none else none else none else none else none else none
theorem s_law_j235 (XL : Nat) (xs : Nat → Int32) (k18 : Int32 → gS → Option Int32) (hk18 : ∀ (v3 : Int32) (τ : gS), SL XL xs 18 [some (.ref 2000), some (.ref 0), some (.ref 59), some (.int v3)] [] τ (k18 v3 τ)) (v3 : Int32) (σ : gS) : SL XL xs 235 [some (.ref 2000), some (.ref 0), some (.ref 59), some (.int v3)] [] σ (f_law_j235 XL xs k18 v3 σ) := by
  unfold f_law_j235
  refine SL.of1 (pc2 := 236) (fun Q => gl_aload_n d_law_235 rfl) ?_
  refine SL.of1 (pc2 := 237) (fun Q => gl_aload_n d_law_236 rfl) ?_
  refine SL.of1 (pc2 := 238) (fun Q => gl_iload_n d_law_237 rfl) ?_
  refine SL.of1 (pc2 := 239) (fun Q => gl_iconst (v := (1 : Int32)) d_law_238 (by decide)) ?_
  refine SL.of1 (pc2 := 240) (fun Q => gl_iadd d_law_239) ?_
  refine SL.chk (fun h10 => ?_)
  refine SL.of1 (pc2 := 241) (fun Q => gl_sald (gix_in h10) d_law_240) ?_
  refine SL.of1 (pc2 := 242) (fun Q => gl_aload_n d_law_241 rfl) ?_
  refine SL.of1 (pc2 := 243) (fun Q => gl_iload_n d_law_242 rfl) ?_
  refine SL.of1 (pc2 := 244) (fun Q => gl_iconst (v := (2 : Int32)) d_law_243 (by decide)) ?_
  refine SL.of1 (pc2 := 245) (fun Q => gl_iadd d_law_244) ?_
  refine SL.chk (fun h11 => ?_)
  refine SL.of1 (pc2 := 246) (fun Q => gl_sald (gix_in h11) d_law_245) ?_
  refine SL.of1 (pc2 := 247) (fun Q => gl_aload_n d_law_246 rfl) ?_
  refine SL.of1 (pc2 := 248) (fun Q => gl_iload_n d_law_247 rfl) ?_
  refine SL.of1 (pc2 := 249) (fun Q => gl_iconst (v := (3 : Int32)) d_law_248 (by decide)) ?_
  refine SL.of1 (pc2 := 250) (fun Q => gl_iadd d_law_249) ?_
  refine SL.chk (fun h12 => ?_)
  refine SL.of1 (pc2 := 251) (fun Q => gl_sald (gix_in h12) d_law_250) ?_
  refine SL.call_wI (pc3 := 254) rfl (c_T_citizens 1000 (by decide) (xs (v3 + (1 : Int32)).toNatClampNeg) (xs (v3 + (2 : Int32)).toNatClampNeg) (xs (v3 + (3 : Int32)).toNatClampNeg) σ) (fun Q => gl_callV (M2 := m_T_citizens) (vs := [.int (xs (v3 + (1 : Int32)).toNatClampNeg), .int (xs (v3 + (2 : Int32)).toNatClampNeg), .int (xs (v3 + (3 : Int32)).toNatClampNeg)]) (st := []) lv_RL_18 gk_0 rfl rfl (Nat.le_of_ble_eq_true rfl) (Nat.le_of_ble_eq_true rfl) rfl d_law_251) (fun q13 => ?_)
  refine SL.of1 (pc2 := 255) (fun Q => gl_aload_n d_law_254 rfl) ?_
  refine SL.of1 (pc2 := 256) (fun Q => gl_aload_n d_law_255 rfl) ?_
  refine SL.of1 (pc2 := 257) (fun Q => gl_iload_n d_law_256 rfl) ?_
  refine SL.of1 (pc2 := 258) (fun Q => gl_iconst (v := (1 : Int32)) d_law_257 (by decide)) ?_
  refine SL.of1 (pc2 := 259) (fun Q => gl_iadd d_law_258) ?_
  refine SL.chk (fun h14 => ?_)
  refine SL.of1 (pc2 := 260) (fun Q => gl_sald (gix_in h14) d_law_259) ?_
  refine SL.of1 (pc2 := 261) (fun Q => gl_aload_n d_law_260 rfl) ?_
  refine SL.of1 (pc2 := 262) (fun Q => gl_iload_n d_law_261 rfl) ?_
  refine SL.of1 (pc2 := 263) (fun Q => gl_iconst (v := (2 : Int32)) d_law_262 (by decide)) ?_
  refine SL.of1 (pc2 := 264) (fun Q => gl_iadd d_law_263) ?_
  refine SL.chk (fun h15 => ?_)
  refine SL.of1 (pc2 := 265) (fun Q => gl_sald (gix_in h15) d_law_264) ?_
  refine SL.of1 (pc2 := 266) (fun Q => gl_aload_n d_law_265 rfl) ?_
  refine SL.of1 (pc2 := 267) (fun Q => gl_iload_n d_law_266 rfl) ?_
  refine SL.of1 (pc2 := 268) (fun Q => gl_iconst (v := (3 : Int32)) d_law_267 (by decide)) ?_
  refine SL.of1 (pc2 := 269) (fun Q => gl_iadd d_law_268) ?_
  refine SL.chk (fun h16 => ?_)
  refine SL.of1 (pc2 := 270) (fun Q => gl_sald (gix_in h16) d_law_269) ?_
  refine SL.call_wI (pc3 := 273) rfl (c_M_citizens 1000 (by decide) (xs (v3 + (1 : Int32)).toNatClampNeg) (xs (v3 + (2 : Int32)).toNatClampNeg) (xs (v3 + (3 : Int32)).toNatClampNeg) q13.2) (fun Q => gl_callV (M2 := m_M_citizens) (vs := [.int (xs (v3 + (1 : Int32)).toNatClampNeg), .int (xs (v3 + (2 : Int32)).toNatClampNeg), .int (xs (v3 + (3 : Int32)).toNatClampNeg)]) (st := [.int q13.1]) lv_RL_22 gk_59 rfl rfl (Nat.le_of_ble_eq_true rfl) (Nat.le_of_ble_eq_true rfl) rfl d_law_270) (fun q17 => ?_)
  refine SL.br (c := q13.1 = q17.1) (t := 1467) (e := 276) (fun Q kt kf => gl_icmp_eq d_law_273 rfl kt kf) (fun h18 => ?_) (fun h18 => ?_)
  · refine SL.of1 (pc2 := 1470) (L2 := [some (.ref 2000), some (.ref 0), some (.ref 59), some (.int (v3 + (6 : Int32)))]) (fun Q => gl_iinc d_law_1467 rfl (congrArg (fun z => v3 + z) (by decide)) (Nat.le_of_ble_eq_true rfl) rfl) ?_
    refine SL.of1 (pc2 := 18) (fun Q => gl_goto d_law_1470 rfl) ?_
    exact SL.wk (L2 := [some (.ref 2000), some (.ref 0), some (.ref 59), some (.int (v3 + (6 : Int32)))]) (And.intro rfl (And.intro rfl (And.intro rfl (And.intro rfl trivial)))) (hk18 (v3 + (6 : Int32)) q17.2)
  · refine SL.of1 (pc2 := 277) (fun Q => gl_iconst (v := (0 : Int32)) d_law_276 (by decide)) ?_
    exact SL.ret0
def f_law_j278 (XL : Nat) (xs : Nat → Int32) (k18 : Int32 → gS → Option Int32) (v3 : Int32) (σ : gS) : Option Int32 :=
  if gix (v3 + (1 : Int32)) XL then if gix (v3 + (2 : Int32)) XL then if gix (v3 + (3 : Int32)) XL then (f_T_mend (xs (v3 + (1 : Int32)).toNatClampNeg) (xs (v3 + (2 : Int32)).toNatClampNeg) (xs (v3 + (3 : Int32)).toNatClampNeg) σ).bind fun q23 => if gix (v3 + (1 : Int32)) XL then if gix (v3 + (2 : Int32)) XL then if gix (v3 + (3 : Int32)) XL then (f_M_mend (xs (v3 + (1 : Int32)).toNatClampNeg) (xs (v3 + (2 : Int32)).toNatClampNeg) (xs (v3 + (3 : Int32)).toNatClampNeg) q23.2).bind fun q27 => if q23.1 = q27.1 then k18 (v3 + (6 : Int32)) q27.2 else some (0 : Int32) else none else none else none else none else none else none
theorem s_law_j278 (XL : Nat) (xs : Nat → Int32) (k18 : Int32 → gS → Option Int32) (hk18 : ∀ (v3 : Int32) (τ : gS), SL XL xs 18 [some (.ref 2000), some (.ref 0), some (.ref 59), some (.int v3)] [] τ (k18 v3 τ)) (v3 : Int32) (σ : gS) : SL XL xs 278 [some (.ref 2000), some (.ref 0), some (.ref 59), some (.int v3)] [] σ (f_law_j278 XL xs k18 v3 σ) := by
  unfold f_law_j278
  refine SL.of1 (pc2 := 279) (fun Q => gl_aload_n d_law_278 rfl) ?_
  refine SL.of1 (pc2 := 280) (fun Q => gl_aload_n d_law_279 rfl) ?_
  refine SL.of1 (pc2 := 281) (fun Q => gl_iload_n d_law_280 rfl) ?_
  refine SL.of1 (pc2 := 282) (fun Q => gl_iconst (v := (1 : Int32)) d_law_281 (by decide)) ?_
  refine SL.of1 (pc2 := 283) (fun Q => gl_iadd d_law_282) ?_
  refine SL.chk (fun h20 => ?_)
  refine SL.of1 (pc2 := 284) (fun Q => gl_sald (gix_in h20) d_law_283) ?_
  refine SL.of1 (pc2 := 285) (fun Q => gl_aload_n d_law_284 rfl) ?_
  refine SL.of1 (pc2 := 286) (fun Q => gl_iload_n d_law_285 rfl) ?_
  refine SL.of1 (pc2 := 287) (fun Q => gl_iconst (v := (2 : Int32)) d_law_286 (by decide)) ?_
  refine SL.of1 (pc2 := 288) (fun Q => gl_iadd d_law_287) ?_
  refine SL.chk (fun h21 => ?_)
  refine SL.of1 (pc2 := 289) (fun Q => gl_sald (gix_in h21) d_law_288) ?_
  refine SL.of1 (pc2 := 290) (fun Q => gl_aload_n d_law_289 rfl) ?_
  refine SL.of1 (pc2 := 291) (fun Q => gl_iload_n d_law_290 rfl) ?_
  refine SL.of1 (pc2 := 292) (fun Q => gl_iconst (v := (3 : Int32)) d_law_291 (by decide)) ?_
  refine SL.of1 (pc2 := 293) (fun Q => gl_iadd d_law_292) ?_
  refine SL.chk (fun h22 => ?_)
  refine SL.of1 (pc2 := 294) (fun Q => gl_sald (gix_in h22) d_law_293) ?_
  refine SL.call_wI (pc3 := 297) rfl (c_T_mend 1000 (by decide) (xs (v3 + (1 : Int32)).toNatClampNeg) (xs (v3 + (2 : Int32)).toNatClampNeg) (xs (v3 + (3 : Int32)).toNatClampNeg) σ) (fun Q => gl_callV (M2 := m_T_mend) (vs := [.int (xs (v3 + (1 : Int32)).toNatClampNeg), .int (xs (v3 + (2 : Int32)).toNatClampNeg), .int (xs (v3 + (3 : Int32)).toNatClampNeg)]) (st := []) lv_RL_23 gk_0 rfl rfl (Nat.le_of_ble_eq_true rfl) (Nat.le_of_ble_eq_true rfl) rfl d_law_294) (fun q23 => ?_)
  refine SL.of1 (pc2 := 298) (fun Q => gl_aload_n d_law_297 rfl) ?_
  refine SL.of1 (pc2 := 299) (fun Q => gl_aload_n d_law_298 rfl) ?_
  refine SL.of1 (pc2 := 300) (fun Q => gl_iload_n d_law_299 rfl) ?_
  refine SL.of1 (pc2 := 301) (fun Q => gl_iconst (v := (1 : Int32)) d_law_300 (by decide)) ?_
  refine SL.of1 (pc2 := 302) (fun Q => gl_iadd d_law_301) ?_
  refine SL.chk (fun h24 => ?_)
  refine SL.of1 (pc2 := 303) (fun Q => gl_sald (gix_in h24) d_law_302) ?_
  refine SL.of1 (pc2 := 304) (fun Q => gl_aload_n d_law_303 rfl) ?_
  refine SL.of1 (pc2 := 305) (fun Q => gl_iload_n d_law_304 rfl) ?_
  refine SL.of1 (pc2 := 306) (fun Q => gl_iconst (v := (2 : Int32)) d_law_305 (by decide)) ?_
  refine SL.of1 (pc2 := 307) (fun Q => gl_iadd d_law_306) ?_
  refine SL.chk (fun h25 => ?_)
  refine SL.of1 (pc2 := 308) (fun Q => gl_sald (gix_in h25) d_law_307) ?_
  refine SL.of1 (pc2 := 309) (fun Q => gl_aload_n d_law_308 rfl) ?_
  refine SL.of1 (pc2 := 310) (fun Q => gl_iload_n d_law_309 rfl) ?_
  refine SL.of1 (pc2 := 311) (fun Q => gl_iconst (v := (3 : Int32)) d_law_310 (by decide)) ?_
  refine SL.of1 (pc2 := 312) (fun Q => gl_iadd d_law_311) ?_
  refine SL.chk (fun h26 => ?_)
  refine SL.of1 (pc2 := 313) (fun Q => gl_sald (gix_in h26) d_law_312) ?_
  refine SL.call_wI (pc3 := 316) rfl (c_M_mend 1000 (by decide) (xs (v3 + (1 : Int32)).toNatClampNeg) (xs (v3 + (2 : Int32)).toNatClampNeg) (xs (v3 + (3 : Int32)).toNatClampNeg) q23.2) (fun Q => gl_callV (M2 := m_M_mend) (vs := [.int (xs (v3 + (1 : Int32)).toNatClampNeg), .int (xs (v3 + (2 : Int32)).toNatClampNeg), .int (xs (v3 + (3 : Int32)).toNatClampNeg)]) (st := [.int q23.1]) lv_RL_26 gk_59 rfl rfl (Nat.le_of_ble_eq_true rfl) (Nat.le_of_ble_eq_true rfl) rfl d_law_313) (fun q27 => ?_)
  refine SL.br (c := q23.1 = q27.1) (t := 1467) (e := 319) (fun Q kt kf => gl_icmp_eq d_law_316 rfl kt kf) (fun h28 => ?_) (fun h28 => ?_)
  · refine SL.of1 (pc2 := 1470) (L2 := [some (.ref 2000), some (.ref 0), some (.ref 59), some (.int (v3 + (6 : Int32)))]) (fun Q => gl_iinc d_law_1467 rfl (congrArg (fun z => v3 + z) (by decide)) (Nat.le_of_ble_eq_true rfl) rfl) ?_
    refine SL.of1 (pc2 := 18) (fun Q => gl_goto d_law_1470 rfl) ?_
    exact SL.wk (L2 := [some (.ref 2000), some (.ref 0), some (.ref 59), some (.int (v3 + (6 : Int32)))]) (And.intro rfl (And.intro rfl (And.intro rfl (And.intro rfl trivial)))) (hk18 (v3 + (6 : Int32)) q27.2)
  · refine SL.of1 (pc2 := 320) (fun Q => gl_iconst (v := (0 : Int32)) d_law_319 (by decide)) ?_
    exact SL.ret0
def f_law_j321 (XL : Nat) (xs : Nat → Int32) (k18 : Int32 → gS → Option Int32) (v3 : Int32) (σ : gS) : Option Int32 :=
  if gix (v3 + (1 : Int32)) XL then if gix (v3 + (2 : Int32)) XL then (f_T_of (xs (v3 + (1 : Int32)).toNatClampNeg) (xs (v3 + (2 : Int32)).toNatClampNeg) σ).bind fun q32 => if gix (v3 + (1 : Int32)) XL then if gix (v3 + (2 : Int32)) XL then (f_M_of (xs (v3 + (1 : Int32)).toNatClampNeg) (xs (v3 + (2 : Int32)).toNatClampNeg) σ).bind fun q35 => if q32 = q35 then k18 (v3 + (6 : Int32)) σ else some (0 : Int32) else none else none else none else none
theorem s_law_j321 (XL : Nat) (xs : Nat → Int32) (k18 : Int32 → gS → Option Int32) (hk18 : ∀ (v3 : Int32) (τ : gS), SL XL xs 18 [some (.ref 2000), some (.ref 0), some (.ref 59), some (.int v3)] [] τ (k18 v3 τ)) (v3 : Int32) (σ : gS) : SL XL xs 321 [some (.ref 2000), some (.ref 0), some (.ref 59), some (.int v3)] [] σ (f_law_j321 XL xs k18 v3 σ) := by
  unfold f_law_j321
  refine SL.of1 (pc2 := 322) (fun Q => gl_aload_n d_law_321 rfl) ?_
  refine SL.of1 (pc2 := 323) (fun Q => gl_aload_n d_law_322 rfl) ?_
  refine SL.of1 (pc2 := 324) (fun Q => gl_iload_n d_law_323 rfl) ?_
  refine SL.of1 (pc2 := 325) (fun Q => gl_iconst (v := (1 : Int32)) d_law_324 (by decide)) ?_
  refine SL.of1 (pc2 := 326) (fun Q => gl_iadd d_law_325) ?_
  refine SL.chk (fun h30 => ?_)
  refine SL.of1 (pc2 := 327) (fun Q => gl_sald (gix_in h30) d_law_326) ?_
  refine SL.of1 (pc2 := 328) (fun Q => gl_aload_n d_law_327 rfl) ?_
  refine SL.of1 (pc2 := 329) (fun Q => gl_iload_n d_law_328 rfl) ?_
  refine SL.of1 (pc2 := 330) (fun Q => gl_iconst (v := (2 : Int32)) d_law_329 (by decide)) ?_
  refine SL.of1 (pc2 := 331) (fun Q => gl_iadd d_law_330) ?_
  refine SL.chk (fun h31 => ?_)
  refine SL.of1 (pc2 := 332) (fun Q => gl_sald (gix_in h31) d_law_331) ?_
  refine SL.call_rI (pc3 := 335) rfl (c_T_of 1000 (by decide) (xs (v3 + (1 : Int32)).toNatClampNeg) (xs (v3 + (2 : Int32)).toNatClampNeg) σ) (fun Q => gl_callV (M2 := m_T_of) (vs := [.int (xs (v3 + (1 : Int32)).toNatClampNeg), .int (xs (v3 + (2 : Int32)).toNatClampNeg)]) (st := []) lv_RL_27 gk_0 rfl rfl (Nat.le_of_ble_eq_true rfl) (Nat.le_of_ble_eq_true rfl) rfl d_law_332) (fun q32 => ?_)
  refine SL.of1 (pc2 := 336) (fun Q => gl_aload_n d_law_335 rfl) ?_
  refine SL.of1 (pc2 := 337) (fun Q => gl_aload_n d_law_336 rfl) ?_
  refine SL.of1 (pc2 := 338) (fun Q => gl_iload_n d_law_337 rfl) ?_
  refine SL.of1 (pc2 := 339) (fun Q => gl_iconst (v := (1 : Int32)) d_law_338 (by decide)) ?_
  refine SL.of1 (pc2 := 340) (fun Q => gl_iadd d_law_339) ?_
  refine SL.chk (fun h33 => ?_)
  refine SL.of1 (pc2 := 341) (fun Q => gl_sald (gix_in h33) d_law_340) ?_
  refine SL.of1 (pc2 := 342) (fun Q => gl_aload_n d_law_341 rfl) ?_
  refine SL.of1 (pc2 := 343) (fun Q => gl_iload_n d_law_342 rfl) ?_
  refine SL.of1 (pc2 := 344) (fun Q => gl_iconst (v := (2 : Int32)) d_law_343 (by decide)) ?_
  refine SL.of1 (pc2 := 345) (fun Q => gl_iadd d_law_344) ?_
  refine SL.chk (fun h34 => ?_)
  refine SL.of1 (pc2 := 346) (fun Q => gl_sald (gix_in h34) d_law_345) ?_
  refine SL.call_rI (pc3 := 349) rfl (c_M_of 1000 (by decide) (xs (v3 + (1 : Int32)).toNatClampNeg) (xs (v3 + (2 : Int32)).toNatClampNeg) σ) (fun Q => gl_callV (M2 := m_M_of) (vs := [.int (xs (v3 + (1 : Int32)).toNatClampNeg), .int (xs (v3 + (2 : Int32)).toNatClampNeg)]) (st := [.int q32]) lv_RL_31 gk_59 rfl rfl (Nat.le_of_ble_eq_true rfl) (Nat.le_of_ble_eq_true rfl) rfl d_law_346) (fun q35 => ?_)
  refine SL.br (c := q32 = q35) (t := 1467) (e := 352) (fun Q kt kf => gl_icmp_eq d_law_349 rfl kt kf) (fun h36 => ?_) (fun h36 => ?_)
  · refine SL.of1 (pc2 := 1470) (L2 := [some (.ref 2000), some (.ref 0), some (.ref 59), some (.int (v3 + (6 : Int32)))]) (fun Q => gl_iinc d_law_1467 rfl (congrArg (fun z => v3 + z) (by decide)) (Nat.le_of_ble_eq_true rfl) rfl) ?_
    refine SL.of1 (pc2 := 18) (fun Q => gl_goto d_law_1470 rfl) ?_
    exact SL.wk (L2 := [some (.ref 2000), some (.ref 0), some (.ref 59), some (.int (v3 + (6 : Int32)))]) (And.intro rfl (And.intro rfl (And.intro rfl (And.intro rfl trivial)))) (hk18 (v3 + (6 : Int32)) σ)
  · refine SL.of1 (pc2 := 353) (fun Q => gl_iconst (v := (0 : Int32)) d_law_352 (by decide)) ?_
    exact SL.ret0
def f_law_j354 (XL : Nat) (xs : Nat → Int32) (k18 : Int32 → gS → Option Int32) (v3 : Int32) (σ : gS) : Option Int32 :=
  if gix (v3 + (1 : Int32)) XL then (f_T_feed (xs (v3 + (1 : Int32)).toNatClampNeg) σ).bind fun q39 => if gix (v3 + (1 : Int32)) XL then (f_M_feed (xs (v3 + (1 : Int32)).toNatClampNeg) q39.2).bind fun q41 => if q39.1 = q41.1 then k18 (v3 + (6 : Int32)) q41.2 else some (0 : Int32) else none else none
theorem s_law_j354 (XL : Nat) (xs : Nat → Int32) (k18 : Int32 → gS → Option Int32) (hk18 : ∀ (v3 : Int32) (τ : gS), SL XL xs 18 [some (.ref 2000), some (.ref 0), some (.ref 59), some (.int v3)] [] τ (k18 v3 τ)) (v3 : Int32) (σ : gS) : SL XL xs 354 [some (.ref 2000), some (.ref 0), some (.ref 59), some (.int v3)] [] σ (f_law_j354 XL xs k18 v3 σ) := by
  unfold f_law_j354
  refine SL.of1 (pc2 := 355) (fun Q => gl_aload_n d_law_354 rfl) ?_
  refine SL.of1 (pc2 := 356) (fun Q => gl_aload_n d_law_355 rfl) ?_
  refine SL.of1 (pc2 := 357) (fun Q => gl_iload_n d_law_356 rfl) ?_
  refine SL.of1 (pc2 := 358) (fun Q => gl_iconst (v := (1 : Int32)) d_law_357 (by decide)) ?_
  refine SL.of1 (pc2 := 359) (fun Q => gl_iadd d_law_358) ?_
  refine SL.chk (fun h38 => ?_)
  refine SL.of1 (pc2 := 360) (fun Q => gl_sald (gix_in h38) d_law_359) ?_
  refine SL.call_wI (pc3 := 363) rfl (c_T_feed 1000 (by decide) (xs (v3 + (1 : Int32)).toNatClampNeg) σ) (fun Q => gl_callV (M2 := m_T_feed) (vs := [.int (xs (v3 + (1 : Int32)).toNatClampNeg)]) (st := []) lv_RL_32 gk_0 rfl rfl (Nat.le_of_ble_eq_true rfl) (Nat.le_of_ble_eq_true rfl) rfl d_law_360) (fun q39 => ?_)
  refine SL.of1 (pc2 := 364) (fun Q => gl_aload_n d_law_363 rfl) ?_
  refine SL.of1 (pc2 := 365) (fun Q => gl_aload_n d_law_364 rfl) ?_
  refine SL.of1 (pc2 := 366) (fun Q => gl_iload_n d_law_365 rfl) ?_
  refine SL.of1 (pc2 := 367) (fun Q => gl_iconst (v := (1 : Int32)) d_law_366 (by decide)) ?_
  refine SL.of1 (pc2 := 368) (fun Q => gl_iadd d_law_367) ?_
  refine SL.chk (fun h40 => ?_)
  refine SL.of1 (pc2 := 369) (fun Q => gl_sald (gix_in h40) d_law_368) ?_
  refine SL.call_wI (pc3 := 372) rfl (c_M_feed 1000 (by decide) (xs (v3 + (1 : Int32)).toNatClampNeg) q39.2) (fun Q => gl_callV (M2 := m_M_feed) (vs := [.int (xs (v3 + (1 : Int32)).toNatClampNeg)]) (st := [.int q39.1]) lv_RL_35 gk_59 rfl rfl (Nat.le_of_ble_eq_true rfl) (Nat.le_of_ble_eq_true rfl) rfl d_law_369) (fun q41 => ?_)
  refine SL.br (c := q39.1 = q41.1) (t := 1467) (e := 375) (fun Q kt kf => gl_icmp_eq d_law_372 rfl kt kf) (fun h42 => ?_) (fun h42 => ?_)
  · refine SL.of1 (pc2 := 1470) (L2 := [some (.ref 2000), some (.ref 0), some (.ref 59), some (.int (v3 + (6 : Int32)))]) (fun Q => gl_iinc d_law_1467 rfl (congrArg (fun z => v3 + z) (by decide)) (Nat.le_of_ble_eq_true rfl) rfl) ?_
    refine SL.of1 (pc2 := 18) (fun Q => gl_goto d_law_1470 rfl) ?_
    exact SL.wk (L2 := [some (.ref 2000), some (.ref 0), some (.ref 59), some (.int (v3 + (6 : Int32)))]) (And.intro rfl (And.intro rfl (And.intro rfl (And.intro rfl trivial)))) (hk18 (v3 + (6 : Int32)) q41.2)
  · refine SL.of1 (pc2 := 376) (fun Q => gl_iconst (v := (0 : Int32)) d_law_375 (by decide)) ?_
    exact SL.ret0
def f_law_j377 (XL : Nat) (xs : Nat → Int32) (k18 : Int32 → gS → Option Int32) (v3 : Int32) (σ : gS) : Option Int32 :=
  (f_T_law σ).bind fun q44 => (f_M_law q44.2).bind fun q45 => if q44.1 = q45.1 then k18 (v3 + (6 : Int32)) q45.2 else some (0 : Int32)
theorem s_law_j377 (XL : Nat) (xs : Nat → Int32) (k18 : Int32 → gS → Option Int32) (hk18 : ∀ (v3 : Int32) (τ : gS), SL XL xs 18 [some (.ref 2000), some (.ref 0), some (.ref 59), some (.int v3)] [] τ (k18 v3 τ)) (v3 : Int32) (σ : gS) : SL XL xs 377 [some (.ref 2000), some (.ref 0), some (.ref 59), some (.int v3)] [] σ (f_law_j377 XL xs k18 v3 σ) := by
  unfold f_law_j377
  refine SL.of1 (pc2 := 378) (fun Q => gl_aload_n d_law_377 rfl) ?_
  refine SL.call_wI (pc3 := 381) rfl (c_T_law 1000 (by decide) σ) (fun Q => gl_callV (M2 := m_T_law) (vs := []) (st := []) lv_RL_36 gk_0 rfl rfl (Nat.le_of_ble_eq_true rfl) (Nat.le_of_ble_eq_true rfl) rfl d_law_378) (fun q44 => ?_)
  refine SL.of1 (pc2 := 382) (fun Q => gl_aload_n d_law_381 rfl) ?_
  refine SL.call_wI (pc3 := 385) rfl (c_M_law 1000 (by decide) q44.2) (fun Q => gl_callV (M2 := m_M_law) (vs := []) (st := [.int q44.1]) lv_RL_40 gk_59 rfl rfl (Nat.le_of_ble_eq_true rfl) (Nat.le_of_ble_eq_true rfl) rfl d_law_382) (fun q45 => ?_)
  refine SL.br (c := q44.1 = q45.1) (t := 1467) (e := 388) (fun Q kt kf => gl_icmp_eq d_law_385 rfl kt kf) (fun h46 => ?_) (fun h46 => ?_)
  · refine SL.of1 (pc2 := 1470) (L2 := [some (.ref 2000), some (.ref 0), some (.ref 59), some (.int (v3 + (6 : Int32)))]) (fun Q => gl_iinc d_law_1467 rfl (congrArg (fun z => v3 + z) (by decide)) (Nat.le_of_ble_eq_true rfl) rfl) ?_
    refine SL.of1 (pc2 := 18) (fun Q => gl_goto d_law_1470 rfl) ?_
    exact SL.wk (L2 := [some (.ref 2000), some (.ref 0), some (.ref 59), some (.int (v3 + (6 : Int32)))]) (And.intro rfl (And.intro rfl (And.intro rfl (And.intro rfl trivial)))) (hk18 (v3 + (6 : Int32)) q45.2)
  · refine SL.of1 (pc2 := 389) (fun Q => gl_iconst (v := (0 : Int32)) d_law_388 (by decide)) ?_
    exact SL.ret0
def f_law_j390 (XL : Nat) (xs : Nat → Int32) (k18 : Int32 → gS → Option Int32) (v3 : Int32) (σ : gS) : Option Int32 :=
  if gix (v3 + (1 : Int32)) XL then (f_T_says (xs (v3 + (1 : Int32)).toNatClampNeg) σ).bind fun q49 => if gix (v3 + (1 : Int32)) XL then (f_M_says (xs (v3 + (1 : Int32)).toNatClampNeg) q49.2).bind fun q51 => if q49.1 = q51.1 then k18 (v3 + (6 : Int32)) q51.2 else some (0 : Int32) else none else none
theorem s_law_j390 (XL : Nat) (xs : Nat → Int32) (k18 : Int32 → gS → Option Int32) (hk18 : ∀ (v3 : Int32) (τ : gS), SL XL xs 18 [some (.ref 2000), some (.ref 0), some (.ref 59), some (.int v3)] [] τ (k18 v3 τ)) (v3 : Int32) (σ : gS) : SL XL xs 390 [some (.ref 2000), some (.ref 0), some (.ref 59), some (.int v3)] [] σ (f_law_j390 XL xs k18 v3 σ) := by
  unfold f_law_j390
  refine SL.of1 (pc2 := 391) (fun Q => gl_aload_n d_law_390 rfl) ?_
  refine SL.of1 (pc2 := 392) (fun Q => gl_aload_n d_law_391 rfl) ?_
  refine SL.of1 (pc2 := 393) (fun Q => gl_iload_n d_law_392 rfl) ?_
  refine SL.of1 (pc2 := 394) (fun Q => gl_iconst (v := (1 : Int32)) d_law_393 (by decide)) ?_
  refine SL.of1 (pc2 := 395) (fun Q => gl_iadd d_law_394) ?_
  refine SL.chk (fun h48 => ?_)
  refine SL.of1 (pc2 := 396) (fun Q => gl_sald (gix_in h48) d_law_395) ?_
  refine SL.call_wI (pc3 := 399) rfl (c_T_says 1000 (by decide) (xs (v3 + (1 : Int32)).toNatClampNeg) σ) (fun Q => gl_callV (M2 := m_T_says) (vs := [.int (xs (v3 + (1 : Int32)).toNatClampNeg)]) (st := []) lv_RL_41 gk_0 rfl rfl (Nat.le_of_ble_eq_true rfl) (Nat.le_of_ble_eq_true rfl) rfl d_law_396) (fun q49 => ?_)
  refine SL.of1 (pc2 := 400) (fun Q => gl_aload_n d_law_399 rfl) ?_
  refine SL.of1 (pc2 := 401) (fun Q => gl_aload_n d_law_400 rfl) ?_
  refine SL.of1 (pc2 := 402) (fun Q => gl_iload_n d_law_401 rfl) ?_
  refine SL.of1 (pc2 := 403) (fun Q => gl_iconst (v := (1 : Int32)) d_law_402 (by decide)) ?_
  refine SL.of1 (pc2 := 404) (fun Q => gl_iadd d_law_403) ?_
  refine SL.chk (fun h50 => ?_)
  refine SL.of1 (pc2 := 405) (fun Q => gl_sald (gix_in h50) d_law_404) ?_
  refine SL.call_wI (pc3 := 408) rfl (c_M_says 1000 (by decide) (xs (v3 + (1 : Int32)).toNatClampNeg) q49.2) (fun Q => gl_callV (M2 := m_M_says) (vs := [.int (xs (v3 + (1 : Int32)).toNatClampNeg)]) (st := [.int q49.1]) lv_RL_44 gk_59 rfl rfl (Nat.le_of_ble_eq_true rfl) (Nat.le_of_ble_eq_true rfl) rfl d_law_405) (fun q51 => ?_)
  refine SL.br (c := q49.1 = q51.1) (t := 1467) (e := 411) (fun Q kt kf => gl_icmp_eq d_law_408 rfl kt kf) (fun h52 => ?_) (fun h52 => ?_)
  · refine SL.of1 (pc2 := 1470) (L2 := [some (.ref 2000), some (.ref 0), some (.ref 59), some (.int (v3 + (6 : Int32)))]) (fun Q => gl_iinc d_law_1467 rfl (congrArg (fun z => v3 + z) (by decide)) (Nat.le_of_ble_eq_true rfl) rfl) ?_
    refine SL.of1 (pc2 := 18) (fun Q => gl_goto d_law_1470 rfl) ?_
    exact SL.wk (L2 := [some (.ref 2000), some (.ref 0), some (.ref 59), some (.int (v3 + (6 : Int32)))]) (And.intro rfl (And.intro rfl (And.intro rfl (And.intro rfl trivial)))) (hk18 (v3 + (6 : Int32)) q51.2)
  · refine SL.of1 (pc2 := 412) (fun Q => gl_iconst (v := (0 : Int32)) d_law_411 (by decide)) ?_
    exact SL.ret0
def f_law_j413 (XL : Nat) (xs : Nat → Int32) (k18 : Int32 → gS → Option Int32) (v3 : Int32) (σ : gS) : Option Int32 :=
  if gix (v3 + (1 : Int32)) XL then (f_T_all (xs (v3 + (1 : Int32)).toNatClampNeg) σ).bind fun q55 => if gix (v3 + (1 : Int32)) XL then (f_M_all (xs (v3 + (1 : Int32)).toNatClampNeg) q55.2).bind fun q57 => if q55.1 = q57.1 then k18 (v3 + (6 : Int32)) q57.2 else some (0 : Int32) else none else none
theorem s_law_j413 (XL : Nat) (xs : Nat → Int32) (k18 : Int32 → gS → Option Int32) (hk18 : ∀ (v3 : Int32) (τ : gS), SL XL xs 18 [some (.ref 2000), some (.ref 0), some (.ref 59), some (.int v3)] [] τ (k18 v3 τ)) (v3 : Int32) (σ : gS) : SL XL xs 413 [some (.ref 2000), some (.ref 0), some (.ref 59), some (.int v3)] [] σ (f_law_j413 XL xs k18 v3 σ) := by
  unfold f_law_j413
  refine SL.of1 (pc2 := 414) (fun Q => gl_aload_n d_law_413 rfl) ?_
  refine SL.of1 (pc2 := 415) (fun Q => gl_aload_n d_law_414 rfl) ?_
  refine SL.of1 (pc2 := 416) (fun Q => gl_iload_n d_law_415 rfl) ?_
  refine SL.of1 (pc2 := 417) (fun Q => gl_iconst (v := (1 : Int32)) d_law_416 (by decide)) ?_
  refine SL.of1 (pc2 := 418) (fun Q => gl_iadd d_law_417) ?_
  refine SL.chk (fun h54 => ?_)
  refine SL.of1 (pc2 := 419) (fun Q => gl_sald (gix_in h54) d_law_418) ?_
  refine SL.call_wI (pc3 := 422) rfl (c_T_all 1000 (by decide) (xs (v3 + (1 : Int32)).toNatClampNeg) σ) (fun Q => gl_callV (M2 := m_T_all) (vs := [.int (xs (v3 + (1 : Int32)).toNatClampNeg)]) (st := []) lv_RL_45 gk_0 rfl rfl (Nat.le_of_ble_eq_true rfl) (Nat.le_of_ble_eq_true rfl) rfl d_law_419) (fun q55 => ?_)
  refine SL.of1 (pc2 := 423) (fun Q => gl_aload_n d_law_422 rfl) ?_
  refine SL.of1 (pc2 := 424) (fun Q => gl_aload_n d_law_423 rfl) ?_
  refine SL.of1 (pc2 := 425) (fun Q => gl_iload_n d_law_424 rfl) ?_
  refine SL.of1 (pc2 := 426) (fun Q => gl_iconst (v := (1 : Int32)) d_law_425 (by decide)) ?_
  refine SL.of1 (pc2 := 427) (fun Q => gl_iadd d_law_426) ?_
  refine SL.chk (fun h56 => ?_)
  refine SL.of1 (pc2 := 428) (fun Q => gl_sald (gix_in h56) d_law_427) ?_
  refine SL.call_wI (pc3 := 431) rfl (c_M_all 1000 (by decide) (xs (v3 + (1 : Int32)).toNatClampNeg) q55.2) (fun Q => gl_callV (M2 := m_M_all) (vs := [.int (xs (v3 + (1 : Int32)).toNatClampNeg)]) (st := [.int q55.1]) lv_RL_48 gk_59 rfl rfl (Nat.le_of_ble_eq_true rfl) (Nat.le_of_ble_eq_true rfl) rfl d_law_428) (fun q57 => ?_)
  refine SL.br (c := q55.1 = q57.1) (t := 1467) (e := 434) (fun Q kt kf => gl_icmp_eq d_law_431 rfl kt kf) (fun h58 => ?_) (fun h58 => ?_)
  · refine SL.of1 (pc2 := 1470) (L2 := [some (.ref 2000), some (.ref 0), some (.ref 59), some (.int (v3 + (6 : Int32)))]) (fun Q => gl_iinc d_law_1467 rfl (congrArg (fun z => v3 + z) (by decide)) (Nat.le_of_ble_eq_true rfl) rfl) ?_
    refine SL.of1 (pc2 := 18) (fun Q => gl_goto d_law_1470 rfl) ?_
    exact SL.wk (L2 := [some (.ref 2000), some (.ref 0), some (.ref 59), some (.int (v3 + (6 : Int32)))]) (And.intro rfl (And.intro rfl (And.intro rfl (And.intro rfl trivial)))) (hk18 (v3 + (6 : Int32)) q57.2)
  · refine SL.of1 (pc2 := 435) (fun Q => gl_iconst (v := (0 : Int32)) d_law_434 (by decide)) ?_
    exact SL.ret0
def f_law_j436 (XL : Nat) (xs : Nat → Int32) (k18 : Int32 → gS → Option Int32) (v3 : Int32) (σ : gS) : Option Int32 :=
  if gix (v3 + (1 : Int32)) XL then (f_T_saying (xs (v3 + (1 : Int32)).toNatClampNeg) σ).bind fun q61 => if gix (v3 + (1 : Int32)) XL then (f_M_saying (xs (v3 + (1 : Int32)).toNatClampNeg) q61.2).bind fun q63 => if q61.1 = q63.1 then k18 (v3 + (6 : Int32)) q63.2 else some (0 : Int32) else none else none
theorem s_law_j436 (XL : Nat) (xs : Nat → Int32) (k18 : Int32 → gS → Option Int32) (hk18 : ∀ (v3 : Int32) (τ : gS), SL XL xs 18 [some (.ref 2000), some (.ref 0), some (.ref 59), some (.int v3)] [] τ (k18 v3 τ)) (v3 : Int32) (σ : gS) : SL XL xs 436 [some (.ref 2000), some (.ref 0), some (.ref 59), some (.int v3)] [] σ (f_law_j436 XL xs k18 v3 σ) := by
  unfold f_law_j436
  refine SL.of1 (pc2 := 437) (fun Q => gl_aload_n d_law_436 rfl) ?_
  refine SL.of1 (pc2 := 438) (fun Q => gl_aload_n d_law_437 rfl) ?_
  refine SL.of1 (pc2 := 439) (fun Q => gl_iload_n d_law_438 rfl) ?_
  refine SL.of1 (pc2 := 440) (fun Q => gl_iconst (v := (1 : Int32)) d_law_439 (by decide)) ?_
  refine SL.of1 (pc2 := 441) (fun Q => gl_iadd d_law_440) ?_
  refine SL.chk (fun h60 => ?_)
  refine SL.of1 (pc2 := 442) (fun Q => gl_sald (gix_in h60) d_law_441) ?_
  refine SL.call_wI (pc3 := 445) rfl (c_T_saying 1000 (by decide) (xs (v3 + (1 : Int32)).toNatClampNeg) σ) (fun Q => gl_callV (M2 := m_T_saying) (vs := [.int (xs (v3 + (1 : Int32)).toNatClampNeg)]) (st := []) lv_RL_49 gk_0 rfl rfl (Nat.le_of_ble_eq_true rfl) (Nat.le_of_ble_eq_true rfl) rfl d_law_442) (fun q61 => ?_)
  refine SL.of1 (pc2 := 446) (fun Q => gl_aload_n d_law_445 rfl) ?_
  refine SL.of1 (pc2 := 447) (fun Q => gl_aload_n d_law_446 rfl) ?_
  refine SL.of1 (pc2 := 448) (fun Q => gl_iload_n d_law_447 rfl) ?_
  refine SL.of1 (pc2 := 449) (fun Q => gl_iconst (v := (1 : Int32)) d_law_448 (by decide)) ?_
  refine SL.of1 (pc2 := 450) (fun Q => gl_iadd d_law_449) ?_
  refine SL.chk (fun h62 => ?_)
  refine SL.of1 (pc2 := 451) (fun Q => gl_sald (gix_in h62) d_law_450) ?_
  refine SL.call_wI (pc3 := 454) rfl (c_M_saying 1000 (by decide) (xs (v3 + (1 : Int32)).toNatClampNeg) q61.2) (fun Q => gl_callV (M2 := m_M_saying) (vs := [.int (xs (v3 + (1 : Int32)).toNatClampNeg)]) (st := [.int q61.1]) lv_RL_52 gk_59 rfl rfl (Nat.le_of_ble_eq_true rfl) (Nat.le_of_ble_eq_true rfl) rfl d_law_451) (fun q63 => ?_)
  refine SL.br (c := q61.1 = q63.1) (t := 1467) (e := 457) (fun Q kt kf => gl_icmp_eq d_law_454 rfl kt kf) (fun h64 => ?_) (fun h64 => ?_)
  · refine SL.of1 (pc2 := 1470) (L2 := [some (.ref 2000), some (.ref 0), some (.ref 59), some (.int (v3 + (6 : Int32)))]) (fun Q => gl_iinc d_law_1467 rfl (congrArg (fun z => v3 + z) (by decide)) (Nat.le_of_ble_eq_true rfl) rfl) ?_
    refine SL.of1 (pc2 := 18) (fun Q => gl_goto d_law_1470 rfl) ?_
    exact SL.wk (L2 := [some (.ref 2000), some (.ref 0), some (.ref 59), some (.int (v3 + (6 : Int32)))]) (And.intro rfl (And.intro rfl (And.intro rfl (And.intro rfl trivial)))) (hk18 (v3 + (6 : Int32)) q63.2)
  · refine SL.of1 (pc2 := 458) (fun Q => gl_iconst (v := (0 : Int32)) d_law_457 (by decide)) ?_
    exact SL.ret0
def f_law_j459 (XL : Nat) (xs : Nat → Int32) (k18 : Int32 → gS → Option Int32) (v3 : Int32) (σ : gS) : Option Int32 :=
  if gix (v3 + (1 : Int32)) XL then if gix (v3 + (2 : Int32)) XL then if gix (v3 + (3 : Int32)) XL then (f_T_claims (xs (v3 + (1 : Int32)).toNatClampNeg) (xs (v3 + (2 : Int32)).toNatClampNeg) (xs (v3 + (3 : Int32)).toNatClampNeg) σ).bind fun q69 => if gix (v3 + (1 : Int32)) XL then if gix (v3 + (2 : Int32)) XL then if gix (v3 + (3 : Int32)) XL then (f_M_claims (xs (v3 + (1 : Int32)).toNatClampNeg) (xs (v3 + (2 : Int32)).toNatClampNeg) (xs (v3 + (3 : Int32)).toNatClampNeg) q69.2).bind fun q73 => if q69.1 = q73.1 then k18 (v3 + (6 : Int32)) q73.2 else some (0 : Int32) else none else none else none else none else none else none
theorem s_law_j459 (XL : Nat) (xs : Nat → Int32) (k18 : Int32 → gS → Option Int32) (hk18 : ∀ (v3 : Int32) (τ : gS), SL XL xs 18 [some (.ref 2000), some (.ref 0), some (.ref 59), some (.int v3)] [] τ (k18 v3 τ)) (v3 : Int32) (σ : gS) : SL XL xs 459 [some (.ref 2000), some (.ref 0), some (.ref 59), some (.int v3)] [] σ (f_law_j459 XL xs k18 v3 σ) := by
  unfold f_law_j459
  refine SL.of1 (pc2 := 460) (fun Q => gl_aload_n d_law_459 rfl) ?_
  refine SL.of1 (pc2 := 461) (fun Q => gl_aload_n d_law_460 rfl) ?_
  refine SL.of1 (pc2 := 462) (fun Q => gl_iload_n d_law_461 rfl) ?_
  refine SL.of1 (pc2 := 463) (fun Q => gl_iconst (v := (1 : Int32)) d_law_462 (by decide)) ?_
  refine SL.of1 (pc2 := 464) (fun Q => gl_iadd d_law_463) ?_
  refine SL.chk (fun h66 => ?_)
  refine SL.of1 (pc2 := 465) (fun Q => gl_sald (gix_in h66) d_law_464) ?_
  refine SL.of1 (pc2 := 466) (fun Q => gl_aload_n d_law_465 rfl) ?_
  refine SL.of1 (pc2 := 467) (fun Q => gl_iload_n d_law_466 rfl) ?_
  refine SL.of1 (pc2 := 468) (fun Q => gl_iconst (v := (2 : Int32)) d_law_467 (by decide)) ?_
  refine SL.of1 (pc2 := 469) (fun Q => gl_iadd d_law_468) ?_
  refine SL.chk (fun h67 => ?_)
  refine SL.of1 (pc2 := 470) (fun Q => gl_sald (gix_in h67) d_law_469) ?_
  refine SL.of1 (pc2 := 471) (fun Q => gl_aload_n d_law_470 rfl) ?_
  refine SL.of1 (pc2 := 472) (fun Q => gl_iload_n d_law_471 rfl) ?_
  refine SL.of1 (pc2 := 473) (fun Q => gl_iconst (v := (3 : Int32)) d_law_472 (by decide)) ?_
  refine SL.of1 (pc2 := 474) (fun Q => gl_iadd d_law_473) ?_
  refine SL.chk (fun h68 => ?_)
  refine SL.of1 (pc2 := 475) (fun Q => gl_sald (gix_in h68) d_law_474) ?_
  refine SL.call_wI (pc3 := 478) rfl (c_T_claims 1000 (by decide) (xs (v3 + (1 : Int32)).toNatClampNeg) (xs (v3 + (2 : Int32)).toNatClampNeg) (xs (v3 + (3 : Int32)).toNatClampNeg) σ) (fun Q => gl_callV (M2 := m_T_claims) (vs := [.int (xs (v3 + (1 : Int32)).toNatClampNeg), .int (xs (v3 + (2 : Int32)).toNatClampNeg), .int (xs (v3 + (3 : Int32)).toNatClampNeg)]) (st := []) lv_RL_53 gk_0 rfl rfl (Nat.le_of_ble_eq_true rfl) (Nat.le_of_ble_eq_true rfl) rfl d_law_475) (fun q69 => ?_)
  refine SL.of1 (pc2 := 479) (fun Q => gl_aload_n d_law_478 rfl) ?_
  refine SL.of1 (pc2 := 480) (fun Q => gl_aload_n d_law_479 rfl) ?_
  refine SL.of1 (pc2 := 481) (fun Q => gl_iload_n d_law_480 rfl) ?_
  refine SL.of1 (pc2 := 482) (fun Q => gl_iconst (v := (1 : Int32)) d_law_481 (by decide)) ?_
  refine SL.of1 (pc2 := 483) (fun Q => gl_iadd d_law_482) ?_
  refine SL.chk (fun h70 => ?_)
  refine SL.of1 (pc2 := 484) (fun Q => gl_sald (gix_in h70) d_law_483) ?_
  refine SL.of1 (pc2 := 485) (fun Q => gl_aload_n d_law_484 rfl) ?_
  refine SL.of1 (pc2 := 486) (fun Q => gl_iload_n d_law_485 rfl) ?_
  refine SL.of1 (pc2 := 487) (fun Q => gl_iconst (v := (2 : Int32)) d_law_486 (by decide)) ?_
  refine SL.of1 (pc2 := 488) (fun Q => gl_iadd d_law_487) ?_
  refine SL.chk (fun h71 => ?_)
  refine SL.of1 (pc2 := 489) (fun Q => gl_sald (gix_in h71) d_law_488) ?_
  refine SL.of1 (pc2 := 490) (fun Q => gl_aload_n d_law_489 rfl) ?_
  refine SL.of1 (pc2 := 491) (fun Q => gl_iload_n d_law_490 rfl) ?_
  refine SL.of1 (pc2 := 492) (fun Q => gl_iconst (v := (3 : Int32)) d_law_491 (by decide)) ?_
  refine SL.of1 (pc2 := 493) (fun Q => gl_iadd d_law_492) ?_
  refine SL.chk (fun h72 => ?_)
  refine SL.of1 (pc2 := 494) (fun Q => gl_sald (gix_in h72) d_law_493) ?_
  refine SL.call_wI (pc3 := 497) rfl (c_M_claims 1000 (by decide) (xs (v3 + (1 : Int32)).toNatClampNeg) (xs (v3 + (2 : Int32)).toNatClampNeg) (xs (v3 + (3 : Int32)).toNatClampNeg) q69.2) (fun Q => gl_callV (M2 := m_M_claims) (vs := [.int (xs (v3 + (1 : Int32)).toNatClampNeg), .int (xs (v3 + (2 : Int32)).toNatClampNeg), .int (xs (v3 + (3 : Int32)).toNatClampNeg)]) (st := [.int q69.1]) lv_RL_56 gk_59 rfl rfl (Nat.le_of_ble_eq_true rfl) (Nat.le_of_ble_eq_true rfl) rfl d_law_494) (fun q73 => ?_)
  refine SL.br (c := q69.1 = q73.1) (t := 1467) (e := 500) (fun Q kt kf => gl_icmp_eq d_law_497 rfl kt kf) (fun h74 => ?_) (fun h74 => ?_)
  · refine SL.of1 (pc2 := 1470) (L2 := [some (.ref 2000), some (.ref 0), some (.ref 59), some (.int (v3 + (6 : Int32)))]) (fun Q => gl_iinc d_law_1467 rfl (congrArg (fun z => v3 + z) (by decide)) (Nat.le_of_ble_eq_true rfl) rfl) ?_
    refine SL.of1 (pc2 := 18) (fun Q => gl_goto d_law_1470 rfl) ?_
    exact SL.wk (L2 := [some (.ref 2000), some (.ref 0), some (.ref 59), some (.int (v3 + (6 : Int32)))]) (And.intro rfl (And.intro rfl (And.intro rfl (And.intro rfl trivial)))) (hk18 (v3 + (6 : Int32)) q73.2)
  · refine SL.of1 (pc2 := 501) (fun Q => gl_iconst (v := (0 : Int32)) d_law_500 (by decide)) ?_
    exact SL.ret0
def f_law_j502 (XL : Nat) (xs : Nat → Int32) (k18 : Int32 → gS → Option Int32) (v3 : Int32) (σ : gS) : Option Int32 :=
  if gix (v3 + (1 : Int32)) XL then if gix (v3 + (2 : Int32)) XL then (f_T_happens (xs (v3 + (1 : Int32)).toNatClampNeg) (xs (v3 + (2 : Int32)).toNatClampNeg) σ).bind fun q78 => if gix (v3 + (1 : Int32)) XL then if gix (v3 + (2 : Int32)) XL then (f_M_happens (xs (v3 + (1 : Int32)).toNatClampNeg) (xs (v3 + (2 : Int32)).toNatClampNeg) q78.2).bind fun q81 => if q78.1 = q81.1 then k18 (v3 + (6 : Int32)) q81.2 else some (0 : Int32) else none else none else none else none
theorem s_law_j502 (XL : Nat) (xs : Nat → Int32) (k18 : Int32 → gS → Option Int32) (hk18 : ∀ (v3 : Int32) (τ : gS), SL XL xs 18 [some (.ref 2000), some (.ref 0), some (.ref 59), some (.int v3)] [] τ (k18 v3 τ)) (v3 : Int32) (σ : gS) : SL XL xs 502 [some (.ref 2000), some (.ref 0), some (.ref 59), some (.int v3)] [] σ (f_law_j502 XL xs k18 v3 σ) := by
  unfold f_law_j502
  refine SL.of1 (pc2 := 503) (fun Q => gl_aload_n d_law_502 rfl) ?_
  refine SL.of1 (pc2 := 504) (fun Q => gl_aload_n d_law_503 rfl) ?_
  refine SL.of1 (pc2 := 505) (fun Q => gl_iload_n d_law_504 rfl) ?_
  refine SL.of1 (pc2 := 506) (fun Q => gl_iconst (v := (1 : Int32)) d_law_505 (by decide)) ?_
  refine SL.of1 (pc2 := 507) (fun Q => gl_iadd d_law_506) ?_
  refine SL.chk (fun h76 => ?_)
  refine SL.of1 (pc2 := 508) (fun Q => gl_sald (gix_in h76) d_law_507) ?_
  refine SL.of1 (pc2 := 509) (fun Q => gl_aload_n d_law_508 rfl) ?_
  refine SL.of1 (pc2 := 510) (fun Q => gl_iload_n d_law_509 rfl) ?_
  refine SL.of1 (pc2 := 511) (fun Q => gl_iconst (v := (2 : Int32)) d_law_510 (by decide)) ?_
  refine SL.of1 (pc2 := 512) (fun Q => gl_iadd d_law_511) ?_
  refine SL.chk (fun h77 => ?_)
  refine SL.of1 (pc2 := 513) (fun Q => gl_sald (gix_in h77) d_law_512) ?_
  refine SL.call_wI (pc3 := 516) rfl (c_T_happens 1000 (by decide) (xs (v3 + (1 : Int32)).toNatClampNeg) (xs (v3 + (2 : Int32)).toNatClampNeg) σ) (fun Q => gl_callV (M2 := m_T_happens) (vs := [.int (xs (v3 + (1 : Int32)).toNatClampNeg), .int (xs (v3 + (2 : Int32)).toNatClampNeg)]) (st := []) lv_RL_57 gk_0 rfl rfl (Nat.le_of_ble_eq_true rfl) (Nat.le_of_ble_eq_true rfl) rfl d_law_513) (fun q78 => ?_)
  refine SL.of1 (pc2 := 517) (fun Q => gl_aload_n d_law_516 rfl) ?_
  refine SL.of1 (pc2 := 518) (fun Q => gl_aload_n d_law_517 rfl) ?_
  refine SL.of1 (pc2 := 519) (fun Q => gl_iload_n d_law_518 rfl) ?_
  refine SL.of1 (pc2 := 520) (fun Q => gl_iconst (v := (1 : Int32)) d_law_519 (by decide)) ?_
  refine SL.of1 (pc2 := 521) (fun Q => gl_iadd d_law_520) ?_
  refine SL.chk (fun h79 => ?_)
  refine SL.of1 (pc2 := 522) (fun Q => gl_sald (gix_in h79) d_law_521) ?_
  refine SL.of1 (pc2 := 523) (fun Q => gl_aload_n d_law_522 rfl) ?_
  refine SL.of1 (pc2 := 524) (fun Q => gl_iload_n d_law_523 rfl) ?_
  refine SL.of1 (pc2 := 525) (fun Q => gl_iconst (v := (2 : Int32)) d_law_524 (by decide)) ?_
  refine SL.of1 (pc2 := 526) (fun Q => gl_iadd d_law_525) ?_
  refine SL.chk (fun h80 => ?_)
  refine SL.of1 (pc2 := 527) (fun Q => gl_sald (gix_in h80) d_law_526) ?_
  refine SL.call_wI (pc3 := 530) rfl (c_M_happens 1000 (by decide) (xs (v3 + (1 : Int32)).toNatClampNeg) (xs (v3 + (2 : Int32)).toNatClampNeg) q78.2) (fun Q => gl_callV (M2 := m_M_happens) (vs := [.int (xs (v3 + (1 : Int32)).toNatClampNeg), .int (xs (v3 + (2 : Int32)).toNatClampNeg)]) (st := [.int q78.1]) lv_RL_60 gk_59 rfl rfl (Nat.le_of_ble_eq_true rfl) (Nat.le_of_ble_eq_true rfl) rfl d_law_527) (fun q81 => ?_)
  refine SL.br (c := q78.1 = q81.1) (t := 1467) (e := 533) (fun Q kt kf => gl_icmp_eq d_law_530 rfl kt kf) (fun h82 => ?_) (fun h82 => ?_)
  · refine SL.of1 (pc2 := 1470) (L2 := [some (.ref 2000), some (.ref 0), some (.ref 59), some (.int (v3 + (6 : Int32)))]) (fun Q => gl_iinc d_law_1467 rfl (congrArg (fun z => v3 + z) (by decide)) (Nat.le_of_ble_eq_true rfl) rfl) ?_
    refine SL.of1 (pc2 := 18) (fun Q => gl_goto d_law_1470 rfl) ?_
    exact SL.wk (L2 := [some (.ref 2000), some (.ref 0), some (.ref 59), some (.int (v3 + (6 : Int32)))]) (And.intro rfl (And.intro rfl (And.intro rfl (And.intro rfl trivial)))) (hk18 (v3 + (6 : Int32)) q81.2)
  · refine SL.of1 (pc2 := 534) (fun Q => gl_iconst (v := (0 : Int32)) d_law_533 (by decide)) ?_
    exact SL.ret0
def f_law_j535 (XL : Nat) (xs : Nat → Int32) (k18 : Int32 → gS → Option Int32) (v3 : Int32) (σ : gS) : Option Int32 :=
  if gix (v3 + (1 : Int32)) XL then if gix (v3 + (2 : Int32)) XL then (f_T_pay (xs (v3 + (1 : Int32)).toNatClampNeg) (xs (v3 + (2 : Int32)).toNatClampNeg) σ).bind fun q86 => if gix (v3 + (1 : Int32)) XL then if gix (v3 + (2 : Int32)) XL then (f_M_pay (xs (v3 + (1 : Int32)).toNatClampNeg) (xs (v3 + (2 : Int32)).toNatClampNeg) q86.2).bind fun q89 => if q86.1 = q89.1 then k18 (v3 + (6 : Int32)) q89.2 else some (0 : Int32) else none else none else none else none
theorem s_law_j535 (XL : Nat) (xs : Nat → Int32) (k18 : Int32 → gS → Option Int32) (hk18 : ∀ (v3 : Int32) (τ : gS), SL XL xs 18 [some (.ref 2000), some (.ref 0), some (.ref 59), some (.int v3)] [] τ (k18 v3 τ)) (v3 : Int32) (σ : gS) : SL XL xs 535 [some (.ref 2000), some (.ref 0), some (.ref 59), some (.int v3)] [] σ (f_law_j535 XL xs k18 v3 σ) := by
  unfold f_law_j535
  refine SL.of1 (pc2 := 536) (fun Q => gl_aload_n d_law_535 rfl) ?_
  refine SL.of1 (pc2 := 537) (fun Q => gl_aload_n d_law_536 rfl) ?_
  refine SL.of1 (pc2 := 538) (fun Q => gl_iload_n d_law_537 rfl) ?_
  refine SL.of1 (pc2 := 539) (fun Q => gl_iconst (v := (1 : Int32)) d_law_538 (by decide)) ?_
  refine SL.of1 (pc2 := 540) (fun Q => gl_iadd d_law_539) ?_
  refine SL.chk (fun h84 => ?_)
  refine SL.of1 (pc2 := 541) (fun Q => gl_sald (gix_in h84) d_law_540) ?_
  refine SL.of1 (pc2 := 542) (fun Q => gl_aload_n d_law_541 rfl) ?_
  refine SL.of1 (pc2 := 543) (fun Q => gl_iload_n d_law_542 rfl) ?_
  refine SL.of1 (pc2 := 544) (fun Q => gl_iconst (v := (2 : Int32)) d_law_543 (by decide)) ?_
  refine SL.of1 (pc2 := 545) (fun Q => gl_iadd d_law_544) ?_
  refine SL.chk (fun h85 => ?_)
  refine SL.of1 (pc2 := 546) (fun Q => gl_sald (gix_in h85) d_law_545) ?_
  refine SL.call_wI (pc3 := 549) rfl (c_T_pay 1000 (by decide) (xs (v3 + (1 : Int32)).toNatClampNeg) (xs (v3 + (2 : Int32)).toNatClampNeg) σ) (fun Q => gl_callV (M2 := m_T_pay) (vs := [.int (xs (v3 + (1 : Int32)).toNatClampNeg), .int (xs (v3 + (2 : Int32)).toNatClampNeg)]) (st := []) lv_RL_61 gk_0 rfl rfl (Nat.le_of_ble_eq_true rfl) (Nat.le_of_ble_eq_true rfl) rfl d_law_546) (fun q86 => ?_)
  refine SL.of1 (pc2 := 550) (fun Q => gl_aload_n d_law_549 rfl) ?_
  refine SL.of1 (pc2 := 551) (fun Q => gl_aload_n d_law_550 rfl) ?_
  refine SL.of1 (pc2 := 552) (fun Q => gl_iload_n d_law_551 rfl) ?_
  refine SL.of1 (pc2 := 553) (fun Q => gl_iconst (v := (1 : Int32)) d_law_552 (by decide)) ?_
  refine SL.of1 (pc2 := 554) (fun Q => gl_iadd d_law_553) ?_
  refine SL.chk (fun h87 => ?_)
  refine SL.of1 (pc2 := 555) (fun Q => gl_sald (gix_in h87) d_law_554) ?_
  refine SL.of1 (pc2 := 556) (fun Q => gl_aload_n d_law_555 rfl) ?_
  refine SL.of1 (pc2 := 557) (fun Q => gl_iload_n d_law_556 rfl) ?_
  refine SL.of1 (pc2 := 558) (fun Q => gl_iconst (v := (2 : Int32)) d_law_557 (by decide)) ?_
  refine SL.of1 (pc2 := 559) (fun Q => gl_iadd d_law_558) ?_
  refine SL.chk (fun h88 => ?_)
  refine SL.of1 (pc2 := 560) (fun Q => gl_sald (gix_in h88) d_law_559) ?_
  refine SL.call_wI (pc3 := 563) rfl (c_M_pay 1000 (by decide) (xs (v3 + (1 : Int32)).toNatClampNeg) (xs (v3 + (2 : Int32)).toNatClampNeg) q86.2) (fun Q => gl_callV (M2 := m_M_pay) (vs := [.int (xs (v3 + (1 : Int32)).toNatClampNeg), .int (xs (v3 + (2 : Int32)).toNatClampNeg)]) (st := [.int q86.1]) lv_RL_64 gk_59 rfl rfl (Nat.le_of_ble_eq_true rfl) (Nat.le_of_ble_eq_true rfl) rfl d_law_560) (fun q89 => ?_)
  refine SL.br (c := q86.1 = q89.1) (t := 1467) (e := 566) (fun Q kt kf => gl_icmp_eq d_law_563 rfl kt kf) (fun h90 => ?_) (fun h90 => ?_)
  · refine SL.of1 (pc2 := 1470) (L2 := [some (.ref 2000), some (.ref 0), some (.ref 59), some (.int (v3 + (6 : Int32)))]) (fun Q => gl_iinc d_law_1467 rfl (congrArg (fun z => v3 + z) (by decide)) (Nat.le_of_ble_eq_true rfl) rfl) ?_
    refine SL.of1 (pc2 := 18) (fun Q => gl_goto d_law_1470 rfl) ?_
    exact SL.wk (L2 := [some (.ref 2000), some (.ref 0), some (.ref 59), some (.int (v3 + (6 : Int32)))]) (And.intro rfl (And.intro rfl (And.intro rfl (And.intro rfl trivial)))) (hk18 (v3 + (6 : Int32)) q89.2)
  · refine SL.of1 (pc2 := 567) (fun Q => gl_iconst (v := (0 : Int32)) d_law_566 (by decide)) ?_
    exact SL.ret0
def f_law_j568 (XL : Nat) (xs : Nat → Int32) (k18 : Int32 → gS → Option Int32) (v3 : Int32) (σ : gS) : Option Int32 :=
  if gix (v3 + (1 : Int32)) XL then if gix (v3 + (2 : Int32)) XL then (f_T_payBoth (xs (v3 + (1 : Int32)).toNatClampNeg) (xs (v3 + (2 : Int32)).toNatClampNeg) σ).bind fun q94 => if gix (v3 + (1 : Int32)) XL then if gix (v3 + (2 : Int32)) XL then (f_M_payBoth (xs (v3 + (1 : Int32)).toNatClampNeg) (xs (v3 + (2 : Int32)).toNatClampNeg) q94.2).bind fun q97 => if q94.1 = q97.1 then k18 (v3 + (6 : Int32)) q97.2 else some (0 : Int32) else none else none else none else none
theorem s_law_j568 (XL : Nat) (xs : Nat → Int32) (k18 : Int32 → gS → Option Int32) (hk18 : ∀ (v3 : Int32) (τ : gS), SL XL xs 18 [some (.ref 2000), some (.ref 0), some (.ref 59), some (.int v3)] [] τ (k18 v3 τ)) (v3 : Int32) (σ : gS) : SL XL xs 568 [some (.ref 2000), some (.ref 0), some (.ref 59), some (.int v3)] [] σ (f_law_j568 XL xs k18 v3 σ) := by
  unfold f_law_j568
  refine SL.of1 (pc2 := 569) (fun Q => gl_aload_n d_law_568 rfl) ?_
  refine SL.of1 (pc2 := 570) (fun Q => gl_aload_n d_law_569 rfl) ?_
  refine SL.of1 (pc2 := 571) (fun Q => gl_iload_n d_law_570 rfl) ?_
  refine SL.of1 (pc2 := 572) (fun Q => gl_iconst (v := (1 : Int32)) d_law_571 (by decide)) ?_
  refine SL.of1 (pc2 := 573) (fun Q => gl_iadd d_law_572) ?_
  refine SL.chk (fun h92 => ?_)
  refine SL.of1 (pc2 := 574) (fun Q => gl_sald (gix_in h92) d_law_573) ?_
  refine SL.of1 (pc2 := 575) (fun Q => gl_aload_n d_law_574 rfl) ?_
  refine SL.of1 (pc2 := 576) (fun Q => gl_iload_n d_law_575 rfl) ?_
  refine SL.of1 (pc2 := 577) (fun Q => gl_iconst (v := (2 : Int32)) d_law_576 (by decide)) ?_
  refine SL.of1 (pc2 := 578) (fun Q => gl_iadd d_law_577) ?_
  refine SL.chk (fun h93 => ?_)
  refine SL.of1 (pc2 := 579) (fun Q => gl_sald (gix_in h93) d_law_578) ?_
  refine SL.call_wI (pc3 := 582) rfl (c_T_payBoth 1000 (by decide) (xs (v3 + (1 : Int32)).toNatClampNeg) (xs (v3 + (2 : Int32)).toNatClampNeg) σ) (fun Q => gl_callV (M2 := m_T_payBoth) (vs := [.int (xs (v3 + (1 : Int32)).toNatClampNeg), .int (xs (v3 + (2 : Int32)).toNatClampNeg)]) (st := []) lv_RL_65 gk_0 rfl rfl (Nat.le_of_ble_eq_true rfl) (Nat.le_of_ble_eq_true rfl) rfl d_law_579) (fun q94 => ?_)
  refine SL.of1 (pc2 := 583) (fun Q => gl_aload_n d_law_582 rfl) ?_
  refine SL.of1 (pc2 := 584) (fun Q => gl_aload_n d_law_583 rfl) ?_
  refine SL.of1 (pc2 := 585) (fun Q => gl_iload_n d_law_584 rfl) ?_
  refine SL.of1 (pc2 := 586) (fun Q => gl_iconst (v := (1 : Int32)) d_law_585 (by decide)) ?_
  refine SL.of1 (pc2 := 587) (fun Q => gl_iadd d_law_586) ?_
  refine SL.chk (fun h95 => ?_)
  refine SL.of1 (pc2 := 588) (fun Q => gl_sald (gix_in h95) d_law_587) ?_
  refine SL.of1 (pc2 := 589) (fun Q => gl_aload_n d_law_588 rfl) ?_
  refine SL.of1 (pc2 := 590) (fun Q => gl_iload_n d_law_589 rfl) ?_
  refine SL.of1 (pc2 := 591) (fun Q => gl_iconst (v := (2 : Int32)) d_law_590 (by decide)) ?_
  refine SL.of1 (pc2 := 592) (fun Q => gl_iadd d_law_591) ?_
  refine SL.chk (fun h96 => ?_)
  refine SL.of1 (pc2 := 593) (fun Q => gl_sald (gix_in h96) d_law_592) ?_
  refine SL.call_wI (pc3 := 596) rfl (c_M_payBoth 1000 (by decide) (xs (v3 + (1 : Int32)).toNatClampNeg) (xs (v3 + (2 : Int32)).toNatClampNeg) q94.2) (fun Q => gl_callV (M2 := m_M_payBoth) (vs := [.int (xs (v3 + (1 : Int32)).toNatClampNeg), .int (xs (v3 + (2 : Int32)).toNatClampNeg)]) (st := [.int q94.1]) lv_RL_68 gk_59 rfl rfl (Nat.le_of_ble_eq_true rfl) (Nat.le_of_ble_eq_true rfl) rfl d_law_593) (fun q97 => ?_)
  refine SL.br (c := q94.1 = q97.1) (t := 1467) (e := 599) (fun Q kt kf => gl_icmp_eq d_law_596 rfl kt kf) (fun h98 => ?_) (fun h98 => ?_)
  · refine SL.of1 (pc2 := 1470) (L2 := [some (.ref 2000), some (.ref 0), some (.ref 59), some (.int (v3 + (6 : Int32)))]) (fun Q => gl_iinc d_law_1467 rfl (congrArg (fun z => v3 + z) (by decide)) (Nat.le_of_ble_eq_true rfl) rfl) ?_
    refine SL.of1 (pc2 := 18) (fun Q => gl_goto d_law_1470 rfl) ?_
    exact SL.wk (L2 := [some (.ref 2000), some (.ref 0), some (.ref 59), some (.int (v3 + (6 : Int32)))]) (And.intro rfl (And.intro rfl (And.intro rfl (And.intro rfl trivial)))) (hk18 (v3 + (6 : Int32)) q97.2)
  · refine SL.of1 (pc2 := 600) (fun Q => gl_iconst (v := (0 : Int32)) d_law_599 (by decide)) ?_
    exact SL.ret0
def f_law_j601 (XL : Nat) (xs : Nat → Int32) (k18 : Int32 → gS → Option Int32) (v3 : Int32) (σ : gS) : Option Int32 :=
  if gix (v3 + (1 : Int32)) XL then (f_T_pairs (xs (v3 + (1 : Int32)).toNatClampNeg) σ).bind fun q101 => if gix (v3 + (1 : Int32)) XL then (f_M_pairs (xs (v3 + (1 : Int32)).toNatClampNeg) q101.2).bind fun q103 => if q101.1 = q103.1 then k18 (v3 + (6 : Int32)) q103.2 else some (0 : Int32) else none else none
theorem s_law_j601 (XL : Nat) (xs : Nat → Int32) (k18 : Int32 → gS → Option Int32) (hk18 : ∀ (v3 : Int32) (τ : gS), SL XL xs 18 [some (.ref 2000), some (.ref 0), some (.ref 59), some (.int v3)] [] τ (k18 v3 τ)) (v3 : Int32) (σ : gS) : SL XL xs 601 [some (.ref 2000), some (.ref 0), some (.ref 59), some (.int v3)] [] σ (f_law_j601 XL xs k18 v3 σ) := by
  unfold f_law_j601
  refine SL.of1 (pc2 := 602) (fun Q => gl_aload_n d_law_601 rfl) ?_
  refine SL.of1 (pc2 := 603) (fun Q => gl_aload_n d_law_602 rfl) ?_
  refine SL.of1 (pc2 := 604) (fun Q => gl_iload_n d_law_603 rfl) ?_
  refine SL.of1 (pc2 := 605) (fun Q => gl_iconst (v := (1 : Int32)) d_law_604 (by decide)) ?_
  refine SL.of1 (pc2 := 606) (fun Q => gl_iadd d_law_605) ?_
  refine SL.chk (fun h100 => ?_)
  refine SL.of1 (pc2 := 607) (fun Q => gl_sald (gix_in h100) d_law_606) ?_
  refine SL.call_wI (pc3 := 610) rfl (c_T_pairs 1000 (by decide) (xs (v3 + (1 : Int32)).toNatClampNeg) σ) (fun Q => gl_callV (M2 := m_T_pairs) (vs := [.int (xs (v3 + (1 : Int32)).toNatClampNeg)]) (st := []) lv_RL_69 gk_0 rfl rfl (Nat.le_of_ble_eq_true rfl) (Nat.le_of_ble_eq_true rfl) rfl d_law_607) (fun q101 => ?_)
  refine SL.of1 (pc2 := 611) (fun Q => gl_aload_n d_law_610 rfl) ?_
  refine SL.of1 (pc2 := 612) (fun Q => gl_aload_n d_law_611 rfl) ?_
  refine SL.of1 (pc2 := 613) (fun Q => gl_iload_n d_law_612 rfl) ?_
  refine SL.of1 (pc2 := 614) (fun Q => gl_iconst (v := (1 : Int32)) d_law_613 (by decide)) ?_
  refine SL.of1 (pc2 := 615) (fun Q => gl_iadd d_law_614) ?_
  refine SL.chk (fun h102 => ?_)
  refine SL.of1 (pc2 := 616) (fun Q => gl_sald (gix_in h102) d_law_615) ?_
  refine SL.call_wI (pc3 := 619) rfl (c_M_pairs 1000 (by decide) (xs (v3 + (1 : Int32)).toNatClampNeg) q101.2) (fun Q => gl_callV (M2 := m_M_pairs) (vs := [.int (xs (v3 + (1 : Int32)).toNatClampNeg)]) (st := [.int q101.1]) lv_RL_72 gk_59 rfl rfl (Nat.le_of_ble_eq_true rfl) (Nat.le_of_ble_eq_true rfl) rfl d_law_616) (fun q103 => ?_)
  refine SL.br (c := q101.1 = q103.1) (t := 1467) (e := 622) (fun Q kt kf => gl_icmp_eq d_law_619 rfl kt kf) (fun h104 => ?_) (fun h104 => ?_)
  · refine SL.of1 (pc2 := 1470) (L2 := [some (.ref 2000), some (.ref 0), some (.ref 59), some (.int (v3 + (6 : Int32)))]) (fun Q => gl_iinc d_law_1467 rfl (congrArg (fun z => v3 + z) (by decide)) (Nat.le_of_ble_eq_true rfl) rfl) ?_
    refine SL.of1 (pc2 := 18) (fun Q => gl_goto d_law_1470 rfl) ?_
    exact SL.wk (L2 := [some (.ref 2000), some (.ref 0), some (.ref 59), some (.int (v3 + (6 : Int32)))]) (And.intro rfl (And.intro rfl (And.intro rfl (And.intro rfl trivial)))) (hk18 (v3 + (6 : Int32)) q103.2)
  · refine SL.of1 (pc2 := 623) (fun Q => gl_iconst (v := (0 : Int32)) d_law_622 (by decide)) ?_
    exact SL.ret0
def f_law_j624 (XL : Nat) (xs : Nat → Int32) (k18 : Int32 → gS → Option Int32) (v3 : Int32) (σ : gS) : Option Int32 :=
  if gix (v3 + (1 : Int32)) XL then (f_T_strangers (xs (v3 + (1 : Int32)).toNatClampNeg) σ).bind fun q107 => if gix (v3 + (1 : Int32)) XL then (f_M_strangers (xs (v3 + (1 : Int32)).toNatClampNeg) q107.2).bind fun q109 => if q107.1 = q109.1 then k18 (v3 + (6 : Int32)) q109.2 else some (0 : Int32) else none else none
theorem s_law_j624 (XL : Nat) (xs : Nat → Int32) (k18 : Int32 → gS → Option Int32) (hk18 : ∀ (v3 : Int32) (τ : gS), SL XL xs 18 [some (.ref 2000), some (.ref 0), some (.ref 59), some (.int v3)] [] τ (k18 v3 τ)) (v3 : Int32) (σ : gS) : SL XL xs 624 [some (.ref 2000), some (.ref 0), some (.ref 59), some (.int v3)] [] σ (f_law_j624 XL xs k18 v3 σ) := by
  unfold f_law_j624
  refine SL.of1 (pc2 := 625) (fun Q => gl_aload_n d_law_624 rfl) ?_
  refine SL.of1 (pc2 := 626) (fun Q => gl_aload_n d_law_625 rfl) ?_
  refine SL.of1 (pc2 := 627) (fun Q => gl_iload_n d_law_626 rfl) ?_
  refine SL.of1 (pc2 := 628) (fun Q => gl_iconst (v := (1 : Int32)) d_law_627 (by decide)) ?_
  refine SL.of1 (pc2 := 629) (fun Q => gl_iadd d_law_628) ?_
  refine SL.chk (fun h106 => ?_)
  refine SL.of1 (pc2 := 630) (fun Q => gl_sald (gix_in h106) d_law_629) ?_
  refine SL.call_wI (pc3 := 633) rfl (c_T_strangers 1000 (by decide) (xs (v3 + (1 : Int32)).toNatClampNeg) σ) (fun Q => gl_callV (M2 := m_T_strangers) (vs := [.int (xs (v3 + (1 : Int32)).toNatClampNeg)]) (st := []) lv_RL_73 gk_0 rfl rfl (Nat.le_of_ble_eq_true rfl) (Nat.le_of_ble_eq_true rfl) rfl d_law_630) (fun q107 => ?_)
  refine SL.of1 (pc2 := 634) (fun Q => gl_aload_n d_law_633 rfl) ?_
  refine SL.of1 (pc2 := 635) (fun Q => gl_aload_n d_law_634 rfl) ?_
  refine SL.of1 (pc2 := 636) (fun Q => gl_iload_n d_law_635 rfl) ?_
  refine SL.of1 (pc2 := 637) (fun Q => gl_iconst (v := (1 : Int32)) d_law_636 (by decide)) ?_
  refine SL.of1 (pc2 := 638) (fun Q => gl_iadd d_law_637) ?_
  refine SL.chk (fun h108 => ?_)
  refine SL.of1 (pc2 := 639) (fun Q => gl_sald (gix_in h108) d_law_638) ?_
  refine SL.call_wI (pc3 := 642) rfl (c_M_strangers 1000 (by decide) (xs (v3 + (1 : Int32)).toNatClampNeg) q107.2) (fun Q => gl_callV (M2 := m_M_strangers) (vs := [.int (xs (v3 + (1 : Int32)).toNatClampNeg)]) (st := [.int q107.1]) lv_RL_76 gk_59 rfl rfl (Nat.le_of_ble_eq_true rfl) (Nat.le_of_ble_eq_true rfl) rfl d_law_639) (fun q109 => ?_)
  refine SL.br (c := q107.1 = q109.1) (t := 1467) (e := 645) (fun Q kt kf => gl_icmp_eq d_law_642 rfl kt kf) (fun h110 => ?_) (fun h110 => ?_)
  · refine SL.of1 (pc2 := 1470) (L2 := [some (.ref 2000), some (.ref 0), some (.ref 59), some (.int (v3 + (6 : Int32)))]) (fun Q => gl_iinc d_law_1467 rfl (congrArg (fun z => v3 + z) (by decide)) (Nat.le_of_ble_eq_true rfl) rfl) ?_
    refine SL.of1 (pc2 := 18) (fun Q => gl_goto d_law_1470 rfl) ?_
    exact SL.wk (L2 := [some (.ref 2000), some (.ref 0), some (.ref 59), some (.int (v3 + (6 : Int32)))]) (And.intro rfl (And.intro rfl (And.intro rfl (And.intro rfl trivial)))) (hk18 (v3 + (6 : Int32)) q109.2)
  · refine SL.of1 (pc2 := 646) (fun Q => gl_iconst (v := (0 : Int32)) d_law_645 (by decide)) ?_
    exact SL.ret0
def f_law_j647 (XL : Nat) (xs : Nat → Int32) (k18 : Int32 → gS → Option Int32) (v3 : Int32) (σ : gS) : Option Int32 :=
  if gix (v3 + (1 : Int32)) XL then if gix (v3 + (2 : Int32)) XL then if gix (v3 + (3 : Int32)) XL then (f_T_likely (xs (v3 + (1 : Int32)).toNatClampNeg) (xs (v3 + (2 : Int32)).toNatClampNeg) (xs (v3 + (3 : Int32)).toNatClampNeg) σ).bind fun q115 => if gix (v3 + (1 : Int32)) XL then if gix (v3 + (2 : Int32)) XL then if gix (v3 + (3 : Int32)) XL then (f_M_likely (xs (v3 + (1 : Int32)).toNatClampNeg) (xs (v3 + (2 : Int32)).toNatClampNeg) (xs (v3 + (3 : Int32)).toNatClampNeg) σ).bind fun q119 => if (lg_cmp q115 q119) = 0 then k18 (v3 + (6 : Int32)) σ else some (0 : Int32) else none else none else none else none else none else none
theorem s_law_j647 (XL : Nat) (xs : Nat → Int32) (k18 : Int32 → gS → Option Int32) (hk18 : ∀ (v3 : Int32) (τ : gS), SL XL xs 18 [some (.ref 2000), some (.ref 0), some (.ref 59), some (.int v3)] [] τ (k18 v3 τ)) (v3 : Int32) (σ : gS) : SL XL xs 647 [some (.ref 2000), some (.ref 0), some (.ref 59), some (.int v3)] [] σ (f_law_j647 XL xs k18 v3 σ) := by
  unfold f_law_j647
  refine SL.of1 (pc2 := 648) (fun Q => gl_aload_n d_law_647 rfl) ?_
  refine SL.of1 (pc2 := 649) (fun Q => gl_aload_n d_law_648 rfl) ?_
  refine SL.of1 (pc2 := 650) (fun Q => gl_iload_n d_law_649 rfl) ?_
  refine SL.of1 (pc2 := 651) (fun Q => gl_iconst (v := (1 : Int32)) d_law_650 (by decide)) ?_
  refine SL.of1 (pc2 := 652) (fun Q => gl_iadd d_law_651) ?_
  refine SL.chk (fun h112 => ?_)
  refine SL.of1 (pc2 := 653) (fun Q => gl_sald (gix_in h112) d_law_652) ?_
  refine SL.of1 (pc2 := 654) (fun Q => gl_aload_n d_law_653 rfl) ?_
  refine SL.of1 (pc2 := 655) (fun Q => gl_iload_n d_law_654 rfl) ?_
  refine SL.of1 (pc2 := 656) (fun Q => gl_iconst (v := (2 : Int32)) d_law_655 (by decide)) ?_
  refine SL.of1 (pc2 := 657) (fun Q => gl_iadd d_law_656) ?_
  refine SL.chk (fun h113 => ?_)
  refine SL.of1 (pc2 := 658) (fun Q => gl_sald (gix_in h113) d_law_657) ?_
  refine SL.of1 (pc2 := 659) (fun Q => gl_aload_n d_law_658 rfl) ?_
  refine SL.of1 (pc2 := 660) (fun Q => gl_iload_n d_law_659 rfl) ?_
  refine SL.of1 (pc2 := 661) (fun Q => gl_iconst (v := (3 : Int32)) d_law_660 (by decide)) ?_
  refine SL.of1 (pc2 := 662) (fun Q => gl_iadd d_law_661) ?_
  refine SL.chk (fun h114 => ?_)
  refine SL.of1 (pc2 := 663) (fun Q => gl_sald (gix_in h114) d_law_662) ?_
  refine SL.call_rJ (pc3 := 666) rfl (c_T_likely 1000 (by decide) (xs (v3 + (1 : Int32)).toNatClampNeg) (xs (v3 + (2 : Int32)).toNatClampNeg) (xs (v3 + (3 : Int32)).toNatClampNeg) σ) (fun Q => gl_callV (M2 := m_T_likely) (vs := [.int (xs (v3 + (1 : Int32)).toNatClampNeg), .int (xs (v3 + (2 : Int32)).toNatClampNeg), .int (xs (v3 + (3 : Int32)).toNatClampNeg)]) (st := []) lv_RL_77 gk_0 rfl rfl (Nat.le_of_ble_eq_true rfl) (Nat.le_of_ble_eq_true rfl) rfl d_law_663) (fun q115 => ?_)
  refine SL.of1 (pc2 := 667) (fun Q => gl_aload_n d_law_666 rfl) ?_
  refine SL.of1 (pc2 := 668) (fun Q => gl_aload_n d_law_667 rfl) ?_
  refine SL.of1 (pc2 := 669) (fun Q => gl_iload_n d_law_668 rfl) ?_
  refine SL.of1 (pc2 := 670) (fun Q => gl_iconst (v := (1 : Int32)) d_law_669 (by decide)) ?_
  refine SL.of1 (pc2 := 671) (fun Q => gl_iadd d_law_670) ?_
  refine SL.chk (fun h116 => ?_)
  refine SL.of1 (pc2 := 672) (fun Q => gl_sald (gix_in h116) d_law_671) ?_
  refine SL.of1 (pc2 := 673) (fun Q => gl_aload_n d_law_672 rfl) ?_
  refine SL.of1 (pc2 := 674) (fun Q => gl_iload_n d_law_673 rfl) ?_
  refine SL.of1 (pc2 := 675) (fun Q => gl_iconst (v := (2 : Int32)) d_law_674 (by decide)) ?_
  refine SL.of1 (pc2 := 676) (fun Q => gl_iadd d_law_675) ?_
  refine SL.chk (fun h117 => ?_)
  refine SL.of1 (pc2 := 677) (fun Q => gl_sald (gix_in h117) d_law_676) ?_
  refine SL.of1 (pc2 := 678) (fun Q => gl_aload_n d_law_677 rfl) ?_
  refine SL.of1 (pc2 := 679) (fun Q => gl_iload_n d_law_678 rfl) ?_
  refine SL.of1 (pc2 := 680) (fun Q => gl_iconst (v := (3 : Int32)) d_law_679 (by decide)) ?_
  refine SL.of1 (pc2 := 681) (fun Q => gl_iadd d_law_680) ?_
  refine SL.chk (fun h118 => ?_)
  refine SL.of1 (pc2 := 682) (fun Q => gl_sald (gix_in h118) d_law_681) ?_
  refine SL.call_rJ (pc3 := 685) rfl (c_M_likely 1000 (by decide) (xs (v3 + (1 : Int32)).toNatClampNeg) (xs (v3 + (2 : Int32)).toNatClampNeg) (xs (v3 + (3 : Int32)).toNatClampNeg) σ) (fun Q => gl_callV (M2 := m_M_likely) (vs := [.int (xs (v3 + (1 : Int32)).toNatClampNeg), .int (xs (v3 + (2 : Int32)).toNatClampNeg), .int (xs (v3 + (3 : Int32)).toNatClampNeg)]) (st := [.long q115]) lv_RL_81 gk_59 rfl rfl (Nat.le_of_ble_eq_true rfl) (Nat.le_of_ble_eq_true rfl) rfl d_law_682) (fun q119 => ?_)
  refine SL.of1 (pc2 := 686) (fun Q => gl_lcmp d_law_685) ?_
  refine SL.br (c := (lg_cmp q115 q119) = 0) (t := 1467) (e := 689) (fun Q kt kf => gl_if_eq d_law_686 rfl kt kf) (fun h120 => ?_) (fun h120 => ?_)
  · refine SL.of1 (pc2 := 1470) (L2 := [some (.ref 2000), some (.ref 0), some (.ref 59), some (.int (v3 + (6 : Int32)))]) (fun Q => gl_iinc d_law_1467 rfl (congrArg (fun z => v3 + z) (by decide)) (Nat.le_of_ble_eq_true rfl) rfl) ?_
    refine SL.of1 (pc2 := 18) (fun Q => gl_goto d_law_1470 rfl) ?_
    exact SL.wk (L2 := [some (.ref 2000), some (.ref 0), some (.ref 59), some (.int (v3 + (6 : Int32)))]) (And.intro rfl (And.intro rfl (And.intro rfl (And.intro rfl trivial)))) (hk18 (v3 + (6 : Int32)) σ)
  · refine SL.of1 (pc2 := 690) (fun Q => gl_iconst (v := (0 : Int32)) d_law_689 (by decide)) ?_
    exact SL.ret0
def f_law_j691 (XL : Nat) (xs : Nat → Int32) (k18 : Int32 → gS → Option Int32) (v3 : Int32) (σ : gS) : Option Int32 :=
  if gix (v3 + (1 : Int32)) XL then if gix (v3 + (2 : Int32)) XL then (f_T_liars (xs (v3 + (1 : Int32)).toNatClampNeg) (xs (v3 + (2 : Int32)).toNatClampNeg) σ).bind fun q124 => if gix (v3 + (1 : Int32)) XL then if gix (v3 + (2 : Int32)) XL then (f_M_liars (xs (v3 + (1 : Int32)).toNatClampNeg) (xs (v3 + (2 : Int32)).toNatClampNeg) σ).bind fun q127 => if q124 = q127 then k18 (v3 + (6 : Int32)) σ else some (0 : Int32) else none else none else none else none
theorem s_law_j691 (XL : Nat) (xs : Nat → Int32) (k18 : Int32 → gS → Option Int32) (hk18 : ∀ (v3 : Int32) (τ : gS), SL XL xs 18 [some (.ref 2000), some (.ref 0), some (.ref 59), some (.int v3)] [] τ (k18 v3 τ)) (v3 : Int32) (σ : gS) : SL XL xs 691 [some (.ref 2000), some (.ref 0), some (.ref 59), some (.int v3)] [] σ (f_law_j691 XL xs k18 v3 σ) := by
  unfold f_law_j691
  refine SL.of1 (pc2 := 692) (fun Q => gl_aload_n d_law_691 rfl) ?_
  refine SL.of1 (pc2 := 693) (fun Q => gl_aload_n d_law_692 rfl) ?_
  refine SL.of1 (pc2 := 694) (fun Q => gl_iload_n d_law_693 rfl) ?_
  refine SL.of1 (pc2 := 695) (fun Q => gl_iconst (v := (1 : Int32)) d_law_694 (by decide)) ?_
  refine SL.of1 (pc2 := 696) (fun Q => gl_iadd d_law_695) ?_
  refine SL.chk (fun h122 => ?_)
  refine SL.of1 (pc2 := 697) (fun Q => gl_sald (gix_in h122) d_law_696) ?_
  refine SL.of1 (pc2 := 698) (fun Q => gl_aload_n d_law_697 rfl) ?_
  refine SL.of1 (pc2 := 699) (fun Q => gl_iload_n d_law_698 rfl) ?_
  refine SL.of1 (pc2 := 700) (fun Q => gl_iconst (v := (2 : Int32)) d_law_699 (by decide)) ?_
  refine SL.of1 (pc2 := 701) (fun Q => gl_iadd d_law_700) ?_
  refine SL.chk (fun h123 => ?_)
  refine SL.of1 (pc2 := 702) (fun Q => gl_sald (gix_in h123) d_law_701) ?_
  refine SL.call_rI (pc3 := 705) rfl (c_T_liars 1000 (by decide) (xs (v3 + (1 : Int32)).toNatClampNeg) (xs (v3 + (2 : Int32)).toNatClampNeg) σ) (fun Q => gl_callV (M2 := m_T_liars) (vs := [.int (xs (v3 + (1 : Int32)).toNatClampNeg), .int (xs (v3 + (2 : Int32)).toNatClampNeg)]) (st := []) lv_RL_82 gk_0 rfl rfl (Nat.le_of_ble_eq_true rfl) (Nat.le_of_ble_eq_true rfl) rfl d_law_702) (fun q124 => ?_)
  refine SL.of1 (pc2 := 706) (fun Q => gl_aload_n d_law_705 rfl) ?_
  refine SL.of1 (pc2 := 707) (fun Q => gl_aload_n d_law_706 rfl) ?_
  refine SL.of1 (pc2 := 708) (fun Q => gl_iload_n d_law_707 rfl) ?_
  refine SL.of1 (pc2 := 709) (fun Q => gl_iconst (v := (1 : Int32)) d_law_708 (by decide)) ?_
  refine SL.of1 (pc2 := 710) (fun Q => gl_iadd d_law_709) ?_
  refine SL.chk (fun h125 => ?_)
  refine SL.of1 (pc2 := 711) (fun Q => gl_sald (gix_in h125) d_law_710) ?_
  refine SL.of1 (pc2 := 712) (fun Q => gl_aload_n d_law_711 rfl) ?_
  refine SL.of1 (pc2 := 713) (fun Q => gl_iload_n d_law_712 rfl) ?_
  refine SL.of1 (pc2 := 714) (fun Q => gl_iconst (v := (2 : Int32)) d_law_713 (by decide)) ?_
  refine SL.of1 (pc2 := 715) (fun Q => gl_iadd d_law_714) ?_
  refine SL.chk (fun h126 => ?_)
  refine SL.of1 (pc2 := 716) (fun Q => gl_sald (gix_in h126) d_law_715) ?_
  refine SL.call_rI (pc3 := 719) rfl (c_M_liars 1000 (by decide) (xs (v3 + (1 : Int32)).toNatClampNeg) (xs (v3 + (2 : Int32)).toNatClampNeg) σ) (fun Q => gl_callV (M2 := m_M_liars) (vs := [.int (xs (v3 + (1 : Int32)).toNatClampNeg), .int (xs (v3 + (2 : Int32)).toNatClampNeg)]) (st := [.int q124]) lv_RL_85 gk_59 rfl rfl (Nat.le_of_ble_eq_true rfl) (Nat.le_of_ble_eq_true rfl) rfl d_law_716) (fun q127 => ?_)
  refine SL.br (c := q124 = q127) (t := 1467) (e := 722) (fun Q kt kf => gl_icmp_eq d_law_719 rfl kt kf) (fun h128 => ?_) (fun h128 => ?_)
  · refine SL.of1 (pc2 := 1470) (L2 := [some (.ref 2000), some (.ref 0), some (.ref 59), some (.int (v3 + (6 : Int32)))]) (fun Q => gl_iinc d_law_1467 rfl (congrArg (fun z => v3 + z) (by decide)) (Nat.le_of_ble_eq_true rfl) rfl) ?_
    refine SL.of1 (pc2 := 18) (fun Q => gl_goto d_law_1470 rfl) ?_
    exact SL.wk (L2 := [some (.ref 2000), some (.ref 0), some (.ref 59), some (.int (v3 + (6 : Int32)))]) (And.intro rfl (And.intro rfl (And.intro rfl (And.intro rfl trivial)))) (hk18 (v3 + (6 : Int32)) σ)
  · refine SL.of1 (pc2 := 723) (fun Q => gl_iconst (v := (0 : Int32)) d_law_722 (by decide)) ?_
    exact SL.ret0
def f_law_j724 (XL : Nat) (xs : Nat → Int32) (k18 : Int32 → gS → Option Int32) (v3 : Int32) (σ : gS) : Option Int32 :=
  if gix (v3 + (1 : Int32)) XL then if gix (v3 + (2 : Int32)) XL then (f_T_days (xs (v3 + (1 : Int32)).toNatClampNeg) (xs (v3 + (2 : Int32)).toNatClampNeg) σ).bind fun q132 => if gix (v3 + (1 : Int32)) XL then if gix (v3 + (2 : Int32)) XL then (f_M_days (xs (v3 + (1 : Int32)).toNatClampNeg) (xs (v3 + (2 : Int32)).toNatClampNeg) q132.2).bind fun q135 => if q132.1 = q135.1 then k18 (v3 + (6 : Int32)) q135.2 else some (0 : Int32) else none else none else none else none
theorem s_law_j724 (XL : Nat) (xs : Nat → Int32) (k18 : Int32 → gS → Option Int32) (hk18 : ∀ (v3 : Int32) (τ : gS), SL XL xs 18 [some (.ref 2000), some (.ref 0), some (.ref 59), some (.int v3)] [] τ (k18 v3 τ)) (v3 : Int32) (σ : gS) : SL XL xs 724 [some (.ref 2000), some (.ref 0), some (.ref 59), some (.int v3)] [] σ (f_law_j724 XL xs k18 v3 σ) := by
  unfold f_law_j724
  refine SL.of1 (pc2 := 725) (fun Q => gl_aload_n d_law_724 rfl) ?_
  refine SL.of1 (pc2 := 726) (fun Q => gl_aload_n d_law_725 rfl) ?_
  refine SL.of1 (pc2 := 727) (fun Q => gl_iload_n d_law_726 rfl) ?_
  refine SL.of1 (pc2 := 728) (fun Q => gl_iconst (v := (1 : Int32)) d_law_727 (by decide)) ?_
  refine SL.of1 (pc2 := 729) (fun Q => gl_iadd d_law_728) ?_
  refine SL.chk (fun h130 => ?_)
  refine SL.of1 (pc2 := 730) (fun Q => gl_sald (gix_in h130) d_law_729) ?_
  refine SL.of1 (pc2 := 731) (fun Q => gl_aload_n d_law_730 rfl) ?_
  refine SL.of1 (pc2 := 732) (fun Q => gl_iload_n d_law_731 rfl) ?_
  refine SL.of1 (pc2 := 733) (fun Q => gl_iconst (v := (2 : Int32)) d_law_732 (by decide)) ?_
  refine SL.of1 (pc2 := 734) (fun Q => gl_iadd d_law_733) ?_
  refine SL.chk (fun h131 => ?_)
  refine SL.of1 (pc2 := 735) (fun Q => gl_sald (gix_in h131) d_law_734) ?_
  refine SL.call_wI (pc3 := 738) rfl (c_T_days 1000 (by decide) (xs (v3 + (1 : Int32)).toNatClampNeg) (xs (v3 + (2 : Int32)).toNatClampNeg) σ) (fun Q => gl_callV (M2 := m_T_days) (vs := [.int (xs (v3 + (1 : Int32)).toNatClampNeg), .int (xs (v3 + (2 : Int32)).toNatClampNeg)]) (st := []) lv_RL_86 gk_0 rfl rfl (Nat.le_of_ble_eq_true rfl) (Nat.le_of_ble_eq_true rfl) rfl d_law_735) (fun q132 => ?_)
  refine SL.of1 (pc2 := 739) (fun Q => gl_aload_n d_law_738 rfl) ?_
  refine SL.of1 (pc2 := 740) (fun Q => gl_aload_n d_law_739 rfl) ?_
  refine SL.of1 (pc2 := 741) (fun Q => gl_iload_n d_law_740 rfl) ?_
  refine SL.of1 (pc2 := 742) (fun Q => gl_iconst (v := (1 : Int32)) d_law_741 (by decide)) ?_
  refine SL.of1 (pc2 := 743) (fun Q => gl_iadd d_law_742) ?_
  refine SL.chk (fun h133 => ?_)
  refine SL.of1 (pc2 := 744) (fun Q => gl_sald (gix_in h133) d_law_743) ?_
  refine SL.of1 (pc2 := 745) (fun Q => gl_aload_n d_law_744 rfl) ?_
  refine SL.of1 (pc2 := 746) (fun Q => gl_iload_n d_law_745 rfl) ?_
  refine SL.of1 (pc2 := 747) (fun Q => gl_iconst (v := (2 : Int32)) d_law_746 (by decide)) ?_
  refine SL.of1 (pc2 := 748) (fun Q => gl_iadd d_law_747) ?_
  refine SL.chk (fun h134 => ?_)
  refine SL.of1 (pc2 := 749) (fun Q => gl_sald (gix_in h134) d_law_748) ?_
  refine SL.call_wI (pc3 := 752) rfl (c_M_days 1000 (by decide) (xs (v3 + (1 : Int32)).toNatClampNeg) (xs (v3 + (2 : Int32)).toNatClampNeg) q132.2) (fun Q => gl_callV (M2 := m_M_days) (vs := [.int (xs (v3 + (1 : Int32)).toNatClampNeg), .int (xs (v3 + (2 : Int32)).toNatClampNeg)]) (st := [.int q132.1]) lv_RL_89 gk_59 rfl rfl (Nat.le_of_ble_eq_true rfl) (Nat.le_of_ble_eq_true rfl) rfl d_law_749) (fun q135 => ?_)
  refine SL.br (c := q132.1 = q135.1) (t := 1467) (e := 755) (fun Q kt kf => gl_icmp_eq d_law_752 rfl kt kf) (fun h136 => ?_) (fun h136 => ?_)
  · refine SL.of1 (pc2 := 1470) (L2 := [some (.ref 2000), some (.ref 0), some (.ref 59), some (.int (v3 + (6 : Int32)))]) (fun Q => gl_iinc d_law_1467 rfl (congrArg (fun z => v3 + z) (by decide)) (Nat.le_of_ble_eq_true rfl) rfl) ?_
    refine SL.of1 (pc2 := 18) (fun Q => gl_goto d_law_1470 rfl) ?_
    exact SL.wk (L2 := [some (.ref 2000), some (.ref 0), some (.ref 59), some (.int (v3 + (6 : Int32)))]) (And.intro rfl (And.intro rfl (And.intro rfl (And.intro rfl trivial)))) (hk18 (v3 + (6 : Int32)) q135.2)
  · refine SL.of1 (pc2 := 756) (fun Q => gl_iconst (v := (0 : Int32)) d_law_755 (by decide)) ?_
    exact SL.ret0
def f_law_j757 (XL : Nat) (xs : Nat → Int32) (k18 : Int32 → gS → Option Int32) (v3 : Int32) (σ : gS) : Option Int32 :=
  if gix (v3 + (1 : Int32)) XL then (f_T_judge (xs (v3 + (1 : Int32)).toNatClampNeg) σ).bind fun q139 => if gix (v3 + (1 : Int32)) XL then (f_M_judge (xs (v3 + (1 : Int32)).toNatClampNeg) q139.2).bind fun q141 => if q139.1 = q141.1 then k18 (v3 + (6 : Int32)) q141.2 else some (0 : Int32) else none else none
theorem s_law_j757 (XL : Nat) (xs : Nat → Int32) (k18 : Int32 → gS → Option Int32) (hk18 : ∀ (v3 : Int32) (τ : gS), SL XL xs 18 [some (.ref 2000), some (.ref 0), some (.ref 59), some (.int v3)] [] τ (k18 v3 τ)) (v3 : Int32) (σ : gS) : SL XL xs 757 [some (.ref 2000), some (.ref 0), some (.ref 59), some (.int v3)] [] σ (f_law_j757 XL xs k18 v3 σ) := by
  unfold f_law_j757
  refine SL.of1 (pc2 := 758) (fun Q => gl_aload_n d_law_757 rfl) ?_
  refine SL.of1 (pc2 := 759) (fun Q => gl_aload_n d_law_758 rfl) ?_
  refine SL.of1 (pc2 := 760) (fun Q => gl_iload_n d_law_759 rfl) ?_
  refine SL.of1 (pc2 := 761) (fun Q => gl_iconst (v := (1 : Int32)) d_law_760 (by decide)) ?_
  refine SL.of1 (pc2 := 762) (fun Q => gl_iadd d_law_761) ?_
  refine SL.chk (fun h138 => ?_)
  refine SL.of1 (pc2 := 763) (fun Q => gl_sald (gix_in h138) d_law_762) ?_
  refine SL.call_wI (pc3 := 766) rfl (c_T_judge 1000 (by decide) (xs (v3 + (1 : Int32)).toNatClampNeg) σ) (fun Q => gl_callV (M2 := m_T_judge) (vs := [.int (xs (v3 + (1 : Int32)).toNatClampNeg)]) (st := []) lv_RL_90 gk_0 rfl rfl (Nat.le_of_ble_eq_true rfl) (Nat.le_of_ble_eq_true rfl) rfl d_law_763) (fun q139 => ?_)
  refine SL.of1 (pc2 := 767) (fun Q => gl_aload_n d_law_766 rfl) ?_
  refine SL.of1 (pc2 := 768) (fun Q => gl_aload_n d_law_767 rfl) ?_
  refine SL.of1 (pc2 := 769) (fun Q => gl_iload_n d_law_768 rfl) ?_
  refine SL.of1 (pc2 := 770) (fun Q => gl_iconst (v := (1 : Int32)) d_law_769 (by decide)) ?_
  refine SL.of1 (pc2 := 771) (fun Q => gl_iadd d_law_770) ?_
  refine SL.chk (fun h140 => ?_)
  refine SL.of1 (pc2 := 772) (fun Q => gl_sald (gix_in h140) d_law_771) ?_
  refine SL.call_wI (pc3 := 775) rfl (c_M_judge 1000 (by decide) (xs (v3 + (1 : Int32)).toNatClampNeg) q139.2) (fun Q => gl_callV (M2 := m_M_judge) (vs := [.int (xs (v3 + (1 : Int32)).toNatClampNeg)]) (st := [.int q139.1]) lv_RL_93 gk_59 rfl rfl (Nat.le_of_ble_eq_true rfl) (Nat.le_of_ble_eq_true rfl) rfl d_law_772) (fun q141 => ?_)
  refine SL.br (c := q139.1 = q141.1) (t := 1467) (e := 778) (fun Q kt kf => gl_icmp_eq d_law_775 rfl kt kf) (fun h142 => ?_) (fun h142 => ?_)
  · refine SL.of1 (pc2 := 1470) (L2 := [some (.ref 2000), some (.ref 0), some (.ref 59), some (.int (v3 + (6 : Int32)))]) (fun Q => gl_iinc d_law_1467 rfl (congrArg (fun z => v3 + z) (by decide)) (Nat.le_of_ble_eq_true rfl) rfl) ?_
    refine SL.of1 (pc2 := 18) (fun Q => gl_goto d_law_1470 rfl) ?_
    exact SL.wk (L2 := [some (.ref 2000), some (.ref 0), some (.ref 59), some (.int (v3 + (6 : Int32)))]) (And.intro rfl (And.intro rfl (And.intro rfl (And.intro rfl trivial)))) (hk18 (v3 + (6 : Int32)) q141.2)
  · refine SL.of1 (pc2 := 779) (fun Q => gl_iconst (v := (0 : Int32)) d_law_778 (by decide)) ?_
    exact SL.ret0
def f_law_j780 (XL : Nat) (xs : Nat → Int32) (k18 : Int32 → gS → Option Int32) (v3 : Int32) (σ : gS) : Option Int32 :=
  if gix (v3 + (1 : Int32)) XL then if gix (v3 + (2 : Int32)) XL then if gix (v3 + (3 : Int32)) XL then (f_T_fits (xs (v3 + (1 : Int32)).toNatClampNeg) (xs (v3 + (2 : Int32)).toNatClampNeg) (xs (v3 + (3 : Int32)).toNatClampNeg) σ).bind fun q147 => if gix (v3 + (1 : Int32)) XL then if gix (v3 + (2 : Int32)) XL then if gix (v3 + (3 : Int32)) XL then (f_M_fits (xs (v3 + (1 : Int32)).toNatClampNeg) (xs (v3 + (2 : Int32)).toNatClampNeg) (xs (v3 + (3 : Int32)).toNatClampNeg) q147.2).bind fun q151 => if q147.1 = q151.1 then k18 (v3 + (6 : Int32)) q151.2 else some (0 : Int32) else none else none else none else none else none else none
theorem s_law_j780 (XL : Nat) (xs : Nat → Int32) (k18 : Int32 → gS → Option Int32) (hk18 : ∀ (v3 : Int32) (τ : gS), SL XL xs 18 [some (.ref 2000), some (.ref 0), some (.ref 59), some (.int v3)] [] τ (k18 v3 τ)) (v3 : Int32) (σ : gS) : SL XL xs 780 [some (.ref 2000), some (.ref 0), some (.ref 59), some (.int v3)] [] σ (f_law_j780 XL xs k18 v3 σ) := by
  unfold f_law_j780
  refine SL.of1 (pc2 := 781) (fun Q => gl_aload_n d_law_780 rfl) ?_
  refine SL.of1 (pc2 := 782) (fun Q => gl_aload_n d_law_781 rfl) ?_
  refine SL.of1 (pc2 := 783) (fun Q => gl_iload_n d_law_782 rfl) ?_
  refine SL.of1 (pc2 := 784) (fun Q => gl_iconst (v := (1 : Int32)) d_law_783 (by decide)) ?_
  refine SL.of1 (pc2 := 785) (fun Q => gl_iadd d_law_784) ?_
  refine SL.chk (fun h144 => ?_)
  refine SL.of1 (pc2 := 786) (fun Q => gl_sald (gix_in h144) d_law_785) ?_
  refine SL.of1 (pc2 := 787) (fun Q => gl_aload_n d_law_786 rfl) ?_
  refine SL.of1 (pc2 := 788) (fun Q => gl_iload_n d_law_787 rfl) ?_
  refine SL.of1 (pc2 := 789) (fun Q => gl_iconst (v := (2 : Int32)) d_law_788 (by decide)) ?_
  refine SL.of1 (pc2 := 790) (fun Q => gl_iadd d_law_789) ?_
  refine SL.chk (fun h145 => ?_)
  refine SL.of1 (pc2 := 791) (fun Q => gl_sald (gix_in h145) d_law_790) ?_
  refine SL.of1 (pc2 := 792) (fun Q => gl_aload_n d_law_791 rfl) ?_
  refine SL.of1 (pc2 := 793) (fun Q => gl_iload_n d_law_792 rfl) ?_
  refine SL.of1 (pc2 := 794) (fun Q => gl_iconst (v := (3 : Int32)) d_law_793 (by decide)) ?_
  refine SL.of1 (pc2 := 795) (fun Q => gl_iadd d_law_794) ?_
  refine SL.chk (fun h146 => ?_)
  refine SL.of1 (pc2 := 796) (fun Q => gl_sald (gix_in h146) d_law_795) ?_
  refine SL.call_wI (pc3 := 799) rfl (c_T_fits 1000 (by decide) (xs (v3 + (1 : Int32)).toNatClampNeg) (xs (v3 + (2 : Int32)).toNatClampNeg) (xs (v3 + (3 : Int32)).toNatClampNeg) σ) (fun Q => gl_callV (M2 := m_T_fits) (vs := [.int (xs (v3 + (1 : Int32)).toNatClampNeg), .int (xs (v3 + (2 : Int32)).toNatClampNeg), .int (xs (v3 + (3 : Int32)).toNatClampNeg)]) (st := []) lv_RL_94 gk_0 rfl rfl (Nat.le_of_ble_eq_true rfl) (Nat.le_of_ble_eq_true rfl) rfl d_law_796) (fun q147 => ?_)
  refine SL.of1 (pc2 := 800) (fun Q => gl_aload_n d_law_799 rfl) ?_
  refine SL.of1 (pc2 := 801) (fun Q => gl_aload_n d_law_800 rfl) ?_
  refine SL.of1 (pc2 := 802) (fun Q => gl_iload_n d_law_801 rfl) ?_
  refine SL.of1 (pc2 := 803) (fun Q => gl_iconst (v := (1 : Int32)) d_law_802 (by decide)) ?_
  refine SL.of1 (pc2 := 804) (fun Q => gl_iadd d_law_803) ?_
  refine SL.chk (fun h148 => ?_)
  refine SL.of1 (pc2 := 805) (fun Q => gl_sald (gix_in h148) d_law_804) ?_
  refine SL.of1 (pc2 := 806) (fun Q => gl_aload_n d_law_805 rfl) ?_
  refine SL.of1 (pc2 := 807) (fun Q => gl_iload_n d_law_806 rfl) ?_
  refine SL.of1 (pc2 := 808) (fun Q => gl_iconst (v := (2 : Int32)) d_law_807 (by decide)) ?_
  refine SL.of1 (pc2 := 809) (fun Q => gl_iadd d_law_808) ?_
  refine SL.chk (fun h149 => ?_)
  refine SL.of1 (pc2 := 810) (fun Q => gl_sald (gix_in h149) d_law_809) ?_
  refine SL.of1 (pc2 := 811) (fun Q => gl_aload_n d_law_810 rfl) ?_
  refine SL.of1 (pc2 := 812) (fun Q => gl_iload_n d_law_811 rfl) ?_
  refine SL.of1 (pc2 := 813) (fun Q => gl_iconst (v := (3 : Int32)) d_law_812 (by decide)) ?_
  refine SL.of1 (pc2 := 814) (fun Q => gl_iadd d_law_813) ?_
  refine SL.chk (fun h150 => ?_)
  refine SL.of1 (pc2 := 815) (fun Q => gl_sald (gix_in h150) d_law_814) ?_
  refine SL.call_wI (pc3 := 818) rfl (c_M_fits 1000 (by decide) (xs (v3 + (1 : Int32)).toNatClampNeg) (xs (v3 + (2 : Int32)).toNatClampNeg) (xs (v3 + (3 : Int32)).toNatClampNeg) q147.2) (fun Q => gl_callV (M2 := m_M_fits) (vs := [.int (xs (v3 + (1 : Int32)).toNatClampNeg), .int (xs (v3 + (2 : Int32)).toNatClampNeg), .int (xs (v3 + (3 : Int32)).toNatClampNeg)]) (st := [.int q147.1]) lv_RL_97 gk_59 rfl rfl (Nat.le_of_ble_eq_true rfl) (Nat.le_of_ble_eq_true rfl) rfl d_law_815) (fun q151 => ?_)
  refine SL.br (c := q147.1 = q151.1) (t := 1467) (e := 821) (fun Q kt kf => gl_icmp_eq d_law_818 rfl kt kf) (fun h152 => ?_) (fun h152 => ?_)
  · refine SL.of1 (pc2 := 1470) (L2 := [some (.ref 2000), some (.ref 0), some (.ref 59), some (.int (v3 + (6 : Int32)))]) (fun Q => gl_iinc d_law_1467 rfl (congrArg (fun z => v3 + z) (by decide)) (Nat.le_of_ble_eq_true rfl) rfl) ?_
    refine SL.of1 (pc2 := 18) (fun Q => gl_goto d_law_1470 rfl) ?_
    exact SL.wk (L2 := [some (.ref 2000), some (.ref 0), some (.ref 59), some (.int (v3 + (6 : Int32)))]) (And.intro rfl (And.intro rfl (And.intro rfl (And.intro rfl trivial)))) (hk18 (v3 + (6 : Int32)) q151.2)
  · refine SL.of1 (pc2 := 822) (fun Q => gl_iconst (v := (0 : Int32)) d_law_821 (by decide)) ?_
    exact SL.ret0
def f_law_j823 (XL : Nat) (xs : Nat → Int32) (k18 : Int32 → gS → Option Int32) (v3 : Int32) (σ : gS) : Option Int32 :=
  if gix (v3 + (1 : Int32)) XL then if gix (v3 + (2 : Int32)) XL then if gix (v3 + (3 : Int32)) XL then (f_T_byTurns (xs (v3 + (1 : Int32)).toNatClampNeg) (xs (v3 + (2 : Int32)).toNatClampNeg) (xs (v3 + (3 : Int32)).toNatClampNeg) σ).bind fun q157 => if gix (v3 + (1 : Int32)) XL then if gix (v3 + (2 : Int32)) XL then if gix (v3 + (3 : Int32)) XL then (f_M_byTurns (xs (v3 + (1 : Int32)).toNatClampNeg) (xs (v3 + (2 : Int32)).toNatClampNeg) (xs (v3 + (3 : Int32)).toNatClampNeg) q157.2).bind fun q161 => if q157.1 = q161.1 then k18 (v3 + (6 : Int32)) q161.2 else some (0 : Int32) else none else none else none else none else none else none
theorem s_law_j823 (XL : Nat) (xs : Nat → Int32) (k18 : Int32 → gS → Option Int32) (hk18 : ∀ (v3 : Int32) (τ : gS), SL XL xs 18 [some (.ref 2000), some (.ref 0), some (.ref 59), some (.int v3)] [] τ (k18 v3 τ)) (v3 : Int32) (σ : gS) : SL XL xs 823 [some (.ref 2000), some (.ref 0), some (.ref 59), some (.int v3)] [] σ (f_law_j823 XL xs k18 v3 σ) := by
  unfold f_law_j823
  refine SL.of1 (pc2 := 824) (fun Q => gl_aload_n d_law_823 rfl) ?_
  refine SL.of1 (pc2 := 825) (fun Q => gl_aload_n d_law_824 rfl) ?_
  refine SL.of1 (pc2 := 826) (fun Q => gl_iload_n d_law_825 rfl) ?_
  refine SL.of1 (pc2 := 827) (fun Q => gl_iconst (v := (1 : Int32)) d_law_826 (by decide)) ?_
  refine SL.of1 (pc2 := 828) (fun Q => gl_iadd d_law_827) ?_
  refine SL.chk (fun h154 => ?_)
  refine SL.of1 (pc2 := 829) (fun Q => gl_sald (gix_in h154) d_law_828) ?_
  refine SL.of1 (pc2 := 830) (fun Q => gl_aload_n d_law_829 rfl) ?_
  refine SL.of1 (pc2 := 831) (fun Q => gl_iload_n d_law_830 rfl) ?_
  refine SL.of1 (pc2 := 832) (fun Q => gl_iconst (v := (2 : Int32)) d_law_831 (by decide)) ?_
  refine SL.of1 (pc2 := 833) (fun Q => gl_iadd d_law_832) ?_
  refine SL.chk (fun h155 => ?_)
  refine SL.of1 (pc2 := 834) (fun Q => gl_sald (gix_in h155) d_law_833) ?_
  refine SL.of1 (pc2 := 835) (fun Q => gl_aload_n d_law_834 rfl) ?_
  refine SL.of1 (pc2 := 836) (fun Q => gl_iload_n d_law_835 rfl) ?_
  refine SL.of1 (pc2 := 837) (fun Q => gl_iconst (v := (3 : Int32)) d_law_836 (by decide)) ?_
  refine SL.of1 (pc2 := 838) (fun Q => gl_iadd d_law_837) ?_
  refine SL.chk (fun h156 => ?_)
  refine SL.of1 (pc2 := 839) (fun Q => gl_sald (gix_in h156) d_law_838) ?_
  refine SL.call_wI (pc3 := 842) rfl (c_T_byTurns 1000 (by decide) (xs (v3 + (1 : Int32)).toNatClampNeg) (xs (v3 + (2 : Int32)).toNatClampNeg) (xs (v3 + (3 : Int32)).toNatClampNeg) σ) (fun Q => gl_callV (M2 := m_T_byTurns) (vs := [.int (xs (v3 + (1 : Int32)).toNatClampNeg), .int (xs (v3 + (2 : Int32)).toNatClampNeg), .int (xs (v3 + (3 : Int32)).toNatClampNeg)]) (st := []) lv_RL_98 gk_0 rfl rfl (Nat.le_of_ble_eq_true rfl) (Nat.le_of_ble_eq_true rfl) rfl d_law_839) (fun q157 => ?_)
  refine SL.of1 (pc2 := 843) (fun Q => gl_aload_n d_law_842 rfl) ?_
  refine SL.of1 (pc2 := 844) (fun Q => gl_aload_n d_law_843 rfl) ?_
  refine SL.of1 (pc2 := 845) (fun Q => gl_iload_n d_law_844 rfl) ?_
  refine SL.of1 (pc2 := 846) (fun Q => gl_iconst (v := (1 : Int32)) d_law_845 (by decide)) ?_
  refine SL.of1 (pc2 := 847) (fun Q => gl_iadd d_law_846) ?_
  refine SL.chk (fun h158 => ?_)
  refine SL.of1 (pc2 := 848) (fun Q => gl_sald (gix_in h158) d_law_847) ?_
  refine SL.of1 (pc2 := 849) (fun Q => gl_aload_n d_law_848 rfl) ?_
  refine SL.of1 (pc2 := 850) (fun Q => gl_iload_n d_law_849 rfl) ?_
  refine SL.of1 (pc2 := 851) (fun Q => gl_iconst (v := (2 : Int32)) d_law_850 (by decide)) ?_
  refine SL.of1 (pc2 := 852) (fun Q => gl_iadd d_law_851) ?_
  refine SL.chk (fun h159 => ?_)
  refine SL.of1 (pc2 := 853) (fun Q => gl_sald (gix_in h159) d_law_852) ?_
  refine SL.of1 (pc2 := 854) (fun Q => gl_aload_n d_law_853 rfl) ?_
  refine SL.of1 (pc2 := 855) (fun Q => gl_iload_n d_law_854 rfl) ?_
  refine SL.of1 (pc2 := 856) (fun Q => gl_iconst (v := (3 : Int32)) d_law_855 (by decide)) ?_
  refine SL.of1 (pc2 := 857) (fun Q => gl_iadd d_law_856) ?_
  refine SL.chk (fun h160 => ?_)
  refine SL.of1 (pc2 := 858) (fun Q => gl_sald (gix_in h160) d_law_857) ?_
  refine SL.call_wI (pc3 := 861) rfl (c_M_byTurns 1000 (by decide) (xs (v3 + (1 : Int32)).toNatClampNeg) (xs (v3 + (2 : Int32)).toNatClampNeg) (xs (v3 + (3 : Int32)).toNatClampNeg) q157.2) (fun Q => gl_callV (M2 := m_M_byTurns) (vs := [.int (xs (v3 + (1 : Int32)).toNatClampNeg), .int (xs (v3 + (2 : Int32)).toNatClampNeg), .int (xs (v3 + (3 : Int32)).toNatClampNeg)]) (st := [.int q157.1]) lv_RL_101 gk_59 rfl rfl (Nat.le_of_ble_eq_true rfl) (Nat.le_of_ble_eq_true rfl) rfl d_law_858) (fun q161 => ?_)
  refine SL.br (c := q157.1 = q161.1) (t := 1467) (e := 864) (fun Q kt kf => gl_icmp_eq d_law_861 rfl kt kf) (fun h162 => ?_) (fun h162 => ?_)
  · refine SL.of1 (pc2 := 1470) (L2 := [some (.ref 2000), some (.ref 0), some (.ref 59), some (.int (v3 + (6 : Int32)))]) (fun Q => gl_iinc d_law_1467 rfl (congrArg (fun z => v3 + z) (by decide)) (Nat.le_of_ble_eq_true rfl) rfl) ?_
    refine SL.of1 (pc2 := 18) (fun Q => gl_goto d_law_1470 rfl) ?_
    exact SL.wk (L2 := [some (.ref 2000), some (.ref 0), some (.ref 59), some (.int (v3 + (6 : Int32)))]) (And.intro rfl (And.intro rfl (And.intro rfl (And.intro rfl trivial)))) (hk18 (v3 + (6 : Int32)) q161.2)
  · refine SL.of1 (pc2 := 865) (fun Q => gl_iconst (v := (0 : Int32)) d_law_864 (by decide)) ?_
    exact SL.ret0
def f_law_j866 (XL : Nat) (xs : Nat → Int32) (k18 : Int32 → gS → Option Int32) (v3 : Int32) (σ : gS) : Option Int32 :=
  if gix (v3 + (1 : Int32)) XL then if gix (v3 + (2 : Int32)) XL then if gix (v3 + (3 : Int32)) XL then (f_T_drawn (xs (v3 + (1 : Int32)).toNatClampNeg) (xs (v3 + (2 : Int32)).toNatClampNeg) (xs (v3 + (3 : Int32)).toNatClampNeg) σ).bind fun q167 => if gix (v3 + (1 : Int32)) XL then if gix (v3 + (2 : Int32)) XL then if gix (v3 + (3 : Int32)) XL then (f_M_drawn (xs (v3 + (1 : Int32)).toNatClampNeg) (xs (v3 + (2 : Int32)).toNatClampNeg) (xs (v3 + (3 : Int32)).toNatClampNeg) q167.2).bind fun q171 => if q167.1 = q171.1 then k18 (v3 + (6 : Int32)) q171.2 else some (0 : Int32) else none else none else none else none else none else none
theorem s_law_j866 (XL : Nat) (xs : Nat → Int32) (k18 : Int32 → gS → Option Int32) (hk18 : ∀ (v3 : Int32) (τ : gS), SL XL xs 18 [some (.ref 2000), some (.ref 0), some (.ref 59), some (.int v3)] [] τ (k18 v3 τ)) (v3 : Int32) (σ : gS) : SL XL xs 866 [some (.ref 2000), some (.ref 0), some (.ref 59), some (.int v3)] [] σ (f_law_j866 XL xs k18 v3 σ) := by
  unfold f_law_j866
  refine SL.of1 (pc2 := 867) (fun Q => gl_aload_n d_law_866 rfl) ?_
  refine SL.of1 (pc2 := 868) (fun Q => gl_aload_n d_law_867 rfl) ?_
  refine SL.of1 (pc2 := 869) (fun Q => gl_iload_n d_law_868 rfl) ?_
  refine SL.of1 (pc2 := 870) (fun Q => gl_iconst (v := (1 : Int32)) d_law_869 (by decide)) ?_
  refine SL.of1 (pc2 := 871) (fun Q => gl_iadd d_law_870) ?_
  refine SL.chk (fun h164 => ?_)
  refine SL.of1 (pc2 := 872) (fun Q => gl_sald (gix_in h164) d_law_871) ?_
  refine SL.of1 (pc2 := 873) (fun Q => gl_aload_n d_law_872 rfl) ?_
  refine SL.of1 (pc2 := 874) (fun Q => gl_iload_n d_law_873 rfl) ?_
  refine SL.of1 (pc2 := 875) (fun Q => gl_iconst (v := (2 : Int32)) d_law_874 (by decide)) ?_
  refine SL.of1 (pc2 := 876) (fun Q => gl_iadd d_law_875) ?_
  refine SL.chk (fun h165 => ?_)
  refine SL.of1 (pc2 := 877) (fun Q => gl_sald (gix_in h165) d_law_876) ?_
  refine SL.of1 (pc2 := 878) (fun Q => gl_aload_n d_law_877 rfl) ?_
  refine SL.of1 (pc2 := 879) (fun Q => gl_iload_n d_law_878 rfl) ?_
  refine SL.of1 (pc2 := 880) (fun Q => gl_iconst (v := (3 : Int32)) d_law_879 (by decide)) ?_
  refine SL.of1 (pc2 := 881) (fun Q => gl_iadd d_law_880) ?_
  refine SL.chk (fun h166 => ?_)
  refine SL.of1 (pc2 := 882) (fun Q => gl_sald (gix_in h166) d_law_881) ?_
  refine SL.call_wI (pc3 := 885) rfl (c_T_drawn 1000 (by decide) (xs (v3 + (1 : Int32)).toNatClampNeg) (xs (v3 + (2 : Int32)).toNatClampNeg) (xs (v3 + (3 : Int32)).toNatClampNeg) σ) (fun Q => gl_callV (M2 := m_T_drawn) (vs := [.int (xs (v3 + (1 : Int32)).toNatClampNeg), .int (xs (v3 + (2 : Int32)).toNatClampNeg), .int (xs (v3 + (3 : Int32)).toNatClampNeg)]) (st := []) lv_RL_102 gk_0 rfl rfl (Nat.le_of_ble_eq_true rfl) (Nat.le_of_ble_eq_true rfl) rfl d_law_882) (fun q167 => ?_)
  refine SL.of1 (pc2 := 886) (fun Q => gl_aload_n d_law_885 rfl) ?_
  refine SL.of1 (pc2 := 887) (fun Q => gl_aload_n d_law_886 rfl) ?_
  refine SL.of1 (pc2 := 888) (fun Q => gl_iload_n d_law_887 rfl) ?_
  refine SL.of1 (pc2 := 889) (fun Q => gl_iconst (v := (1 : Int32)) d_law_888 (by decide)) ?_
  refine SL.of1 (pc2 := 890) (fun Q => gl_iadd d_law_889) ?_
  refine SL.chk (fun h168 => ?_)
  refine SL.of1 (pc2 := 891) (fun Q => gl_sald (gix_in h168) d_law_890) ?_
  refine SL.of1 (pc2 := 892) (fun Q => gl_aload_n d_law_891 rfl) ?_
  refine SL.of1 (pc2 := 893) (fun Q => gl_iload_n d_law_892 rfl) ?_
  refine SL.of1 (pc2 := 894) (fun Q => gl_iconst (v := (2 : Int32)) d_law_893 (by decide)) ?_
  refine SL.of1 (pc2 := 895) (fun Q => gl_iadd d_law_894) ?_
  refine SL.chk (fun h169 => ?_)
  refine SL.of1 (pc2 := 896) (fun Q => gl_sald (gix_in h169) d_law_895) ?_
  refine SL.of1 (pc2 := 897) (fun Q => gl_aload_n d_law_896 rfl) ?_
  refine SL.of1 (pc2 := 898) (fun Q => gl_iload_n d_law_897 rfl) ?_
  refine SL.of1 (pc2 := 899) (fun Q => gl_iconst (v := (3 : Int32)) d_law_898 (by decide)) ?_
  refine SL.of1 (pc2 := 900) (fun Q => gl_iadd d_law_899) ?_
  refine SL.chk (fun h170 => ?_)
  refine SL.of1 (pc2 := 901) (fun Q => gl_sald (gix_in h170) d_law_900) ?_
  refine SL.call_wI (pc3 := 904) rfl (c_M_drawn 1000 (by decide) (xs (v3 + (1 : Int32)).toNatClampNeg) (xs (v3 + (2 : Int32)).toNatClampNeg) (xs (v3 + (3 : Int32)).toNatClampNeg) q167.2) (fun Q => gl_callV (M2 := m_M_drawn) (vs := [.int (xs (v3 + (1 : Int32)).toNatClampNeg), .int (xs (v3 + (2 : Int32)).toNatClampNeg), .int (xs (v3 + (3 : Int32)).toNatClampNeg)]) (st := [.int q167.1]) lv_RL_105 gk_59 rfl rfl (Nat.le_of_ble_eq_true rfl) (Nat.le_of_ble_eq_true rfl) rfl d_law_901) (fun q171 => ?_)
  refine SL.br (c := q167.1 = q171.1) (t := 1467) (e := 907) (fun Q kt kf => gl_icmp_eq d_law_904 rfl kt kf) (fun h172 => ?_) (fun h172 => ?_)
  · refine SL.of1 (pc2 := 1470) (L2 := [some (.ref 2000), some (.ref 0), some (.ref 59), some (.int (v3 + (6 : Int32)))]) (fun Q => gl_iinc d_law_1467 rfl (congrArg (fun z => v3 + z) (by decide)) (Nat.le_of_ble_eq_true rfl) rfl) ?_
    refine SL.of1 (pc2 := 18) (fun Q => gl_goto d_law_1470 rfl) ?_
    exact SL.wk (L2 := [some (.ref 2000), some (.ref 0), some (.ref 59), some (.int (v3 + (6 : Int32)))]) (And.intro rfl (And.intro rfl (And.intro rfl (And.intro rfl trivial)))) (hk18 (v3 + (6 : Int32)) q171.2)
  · refine SL.of1 (pc2 := 908) (fun Q => gl_iconst (v := (0 : Int32)) d_law_907 (by decide)) ?_
    exact SL.ret0
def f_law_j909 (XL : Nat) (xs : Nat → Int32) (k18 : Int32 → gS → Option Int32) (v3 : Int32) (σ : gS) : Option Int32 :=
  if gix (v3 + (1 : Int32)) XL then (f_T_claim (xs (v3 + (1 : Int32)).toNatClampNeg) σ).bind fun q175 => if gix (v3 + (1 : Int32)) XL then (f_M_claim (xs (v3 + (1 : Int32)).toNatClampNeg) q175.2).bind fun q177 => if q175.1 = q177.1 then k18 (v3 + (6 : Int32)) q177.2 else some (0 : Int32) else none else none
theorem s_law_j909 (XL : Nat) (xs : Nat → Int32) (k18 : Int32 → gS → Option Int32) (hk18 : ∀ (v3 : Int32) (τ : gS), SL XL xs 18 [some (.ref 2000), some (.ref 0), some (.ref 59), some (.int v3)] [] τ (k18 v3 τ)) (v3 : Int32) (σ : gS) : SL XL xs 909 [some (.ref 2000), some (.ref 0), some (.ref 59), some (.int v3)] [] σ (f_law_j909 XL xs k18 v3 σ) := by
  unfold f_law_j909
  refine SL.of1 (pc2 := 910) (fun Q => gl_aload_n d_law_909 rfl) ?_
  refine SL.of1 (pc2 := 911) (fun Q => gl_aload_n d_law_910 rfl) ?_
  refine SL.of1 (pc2 := 912) (fun Q => gl_iload_n d_law_911 rfl) ?_
  refine SL.of1 (pc2 := 913) (fun Q => gl_iconst (v := (1 : Int32)) d_law_912 (by decide)) ?_
  refine SL.of1 (pc2 := 914) (fun Q => gl_iadd d_law_913) ?_
  refine SL.chk (fun h174 => ?_)
  refine SL.of1 (pc2 := 915) (fun Q => gl_sald (gix_in h174) d_law_914) ?_
  refine SL.call_wI (pc3 := 918) rfl (c_T_claim 1000 (by decide) (xs (v3 + (1 : Int32)).toNatClampNeg) σ) (fun Q => gl_callV (M2 := m_T_claim) (vs := [.int (xs (v3 + (1 : Int32)).toNatClampNeg)]) (st := []) lv_RL_106 gk_0 rfl rfl (Nat.le_of_ble_eq_true rfl) (Nat.le_of_ble_eq_true rfl) rfl d_law_915) (fun q175 => ?_)
  refine SL.of1 (pc2 := 919) (fun Q => gl_aload_n d_law_918 rfl) ?_
  refine SL.of1 (pc2 := 920) (fun Q => gl_aload_n d_law_919 rfl) ?_
  refine SL.of1 (pc2 := 921) (fun Q => gl_iload_n d_law_920 rfl) ?_
  refine SL.of1 (pc2 := 922) (fun Q => gl_iconst (v := (1 : Int32)) d_law_921 (by decide)) ?_
  refine SL.of1 (pc2 := 923) (fun Q => gl_iadd d_law_922) ?_
  refine SL.chk (fun h176 => ?_)
  refine SL.of1 (pc2 := 924) (fun Q => gl_sald (gix_in h176) d_law_923) ?_
  refine SL.call_wI (pc3 := 927) rfl (c_M_claim 1000 (by decide) (xs (v3 + (1 : Int32)).toNatClampNeg) q175.2) (fun Q => gl_callV (M2 := m_M_claim) (vs := [.int (xs (v3 + (1 : Int32)).toNatClampNeg)]) (st := [.int q175.1]) lv_RL_109 gk_59 rfl rfl (Nat.le_of_ble_eq_true rfl) (Nat.le_of_ble_eq_true rfl) rfl d_law_924) (fun q177 => ?_)
  refine SL.br (c := q175.1 = q177.1) (t := 1467) (e := 930) (fun Q kt kf => gl_icmp_eq d_law_927 rfl kt kf) (fun h178 => ?_) (fun h178 => ?_)
  · refine SL.of1 (pc2 := 1470) (L2 := [some (.ref 2000), some (.ref 0), some (.ref 59), some (.int (v3 + (6 : Int32)))]) (fun Q => gl_iinc d_law_1467 rfl (congrArg (fun z => v3 + z) (by decide)) (Nat.le_of_ble_eq_true rfl) rfl) ?_
    refine SL.of1 (pc2 := 18) (fun Q => gl_goto d_law_1470 rfl) ?_
    exact SL.wk (L2 := [some (.ref 2000), some (.ref 0), some (.ref 59), some (.int (v3 + (6 : Int32)))]) (And.intro rfl (And.intro rfl (And.intro rfl (And.intro rfl trivial)))) (hk18 (v3 + (6 : Int32)) q177.2)
  · refine SL.of1 (pc2 := 931) (fun Q => gl_iconst (v := (0 : Int32)) d_law_930 (by decide)) ?_
    exact SL.ret0
def f_law_j932 (XL : Nat) (xs : Nat → Int32) (k18 : Int32 → gS → Option Int32) (v3 : Int32) (σ : gS) : Option Int32 :=
  (f_T_ends σ).bind fun q180 => (f_M_ends q180.2).bind fun q181 => if q180.1 = q181.1 then k18 (v3 + (6 : Int32)) q181.2 else some (0 : Int32)
theorem s_law_j932 (XL : Nat) (xs : Nat → Int32) (k18 : Int32 → gS → Option Int32) (hk18 : ∀ (v3 : Int32) (τ : gS), SL XL xs 18 [some (.ref 2000), some (.ref 0), some (.ref 59), some (.int v3)] [] τ (k18 v3 τ)) (v3 : Int32) (σ : gS) : SL XL xs 932 [some (.ref 2000), some (.ref 0), some (.ref 59), some (.int v3)] [] σ (f_law_j932 XL xs k18 v3 σ) := by
  unfold f_law_j932
  refine SL.of1 (pc2 := 933) (fun Q => gl_aload_n d_law_932 rfl) ?_
  refine SL.call_wI (pc3 := 936) rfl (c_T_ends 1000 (by decide) σ) (fun Q => gl_callV (M2 := m_T_ends) (vs := []) (st := []) lv_RL_110 gk_0 rfl rfl (Nat.le_of_ble_eq_true rfl) (Nat.le_of_ble_eq_true rfl) rfl d_law_933) (fun q180 => ?_)
  refine SL.of1 (pc2 := 937) (fun Q => gl_aload_n d_law_936 rfl) ?_
  refine SL.call_wI (pc3 := 940) rfl (c_M_ends 1000 (by decide) q180.2) (fun Q => gl_callV (M2 := m_M_ends) (vs := []) (st := [.int q180.1]) lv_RL_113 gk_59 rfl rfl (Nat.le_of_ble_eq_true rfl) (Nat.le_of_ble_eq_true rfl) rfl d_law_937) (fun q181 => ?_)
  refine SL.br (c := q180.1 = q181.1) (t := 1467) (e := 943) (fun Q kt kf => gl_icmp_eq d_law_940 rfl kt kf) (fun h182 => ?_) (fun h182 => ?_)
  · refine SL.of1 (pc2 := 1470) (L2 := [some (.ref 2000), some (.ref 0), some (.ref 59), some (.int (v3 + (6 : Int32)))]) (fun Q => gl_iinc d_law_1467 rfl (congrArg (fun z => v3 + z) (by decide)) (Nat.le_of_ble_eq_true rfl) rfl) ?_
    refine SL.of1 (pc2 := 18) (fun Q => gl_goto d_law_1470 rfl) ?_
    exact SL.wk (L2 := [some (.ref 2000), some (.ref 0), some (.ref 59), some (.int (v3 + (6 : Int32)))]) (And.intro rfl (And.intro rfl (And.intro rfl (And.intro rfl trivial)))) (hk18 (v3 + (6 : Int32)) q181.2)
  · refine SL.of1 (pc2 := 944) (fun Q => gl_iconst (v := (0 : Int32)) d_law_943 (by decide)) ?_
    exact SL.ret0
def f_law_j945 (XL : Nat) (xs : Nat → Int32) (k18 : Int32 → gS → Option Int32) (v3 : Int32) (σ : gS) : Option Int32 :=
  if gix (v3 + (1 : Int32)) XL then (f_T_marry (xs (v3 + (1 : Int32)).toNatClampNeg) σ).bind fun q185 => if gix (v3 + (1 : Int32)) XL then (f_M_marry (xs (v3 + (1 : Int32)).toNatClampNeg) q185.2).bind fun q187 => if q185.1 = q187.1 then k18 (v3 + (6 : Int32)) q187.2 else some (0 : Int32) else none else none
theorem s_law_j945 (XL : Nat) (xs : Nat → Int32) (k18 : Int32 → gS → Option Int32) (hk18 : ∀ (v3 : Int32) (τ : gS), SL XL xs 18 [some (.ref 2000), some (.ref 0), some (.ref 59), some (.int v3)] [] τ (k18 v3 τ)) (v3 : Int32) (σ : gS) : SL XL xs 945 [some (.ref 2000), some (.ref 0), some (.ref 59), some (.int v3)] [] σ (f_law_j945 XL xs k18 v3 σ) := by
  unfold f_law_j945
  refine SL.of1 (pc2 := 946) (fun Q => gl_aload_n d_law_945 rfl) ?_
  refine SL.of1 (pc2 := 947) (fun Q => gl_aload_n d_law_946 rfl) ?_
  refine SL.of1 (pc2 := 948) (fun Q => gl_iload_n d_law_947 rfl) ?_
  refine SL.of1 (pc2 := 949) (fun Q => gl_iconst (v := (1 : Int32)) d_law_948 (by decide)) ?_
  refine SL.of1 (pc2 := 950) (fun Q => gl_iadd d_law_949) ?_
  refine SL.chk (fun h184 => ?_)
  refine SL.of1 (pc2 := 951) (fun Q => gl_sald (gix_in h184) d_law_950) ?_
  refine SL.call_wI (pc3 := 954) rfl (c_T_marry 1000 (by decide) (xs (v3 + (1 : Int32)).toNatClampNeg) σ) (fun Q => gl_callV (M2 := m_T_marry) (vs := [.int (xs (v3 + (1 : Int32)).toNatClampNeg)]) (st := []) lv_RL_114 gk_0 rfl rfl (Nat.le_of_ble_eq_true rfl) (Nat.le_of_ble_eq_true rfl) rfl d_law_951) (fun q185 => ?_)
  refine SL.of1 (pc2 := 955) (fun Q => gl_aload_n d_law_954 rfl) ?_
  refine SL.of1 (pc2 := 956) (fun Q => gl_aload_n d_law_955 rfl) ?_
  refine SL.of1 (pc2 := 957) (fun Q => gl_iload_n d_law_956 rfl) ?_
  refine SL.of1 (pc2 := 958) (fun Q => gl_iconst (v := (1 : Int32)) d_law_957 (by decide)) ?_
  refine SL.of1 (pc2 := 959) (fun Q => gl_iadd d_law_958) ?_
  refine SL.chk (fun h186 => ?_)
  refine SL.of1 (pc2 := 960) (fun Q => gl_sald (gix_in h186) d_law_959) ?_
  refine SL.call_wI (pc3 := 963) rfl (c_M_marry 1000 (by decide) (xs (v3 + (1 : Int32)).toNatClampNeg) q185.2) (fun Q => gl_callV (M2 := m_M_marry) (vs := [.int (xs (v3 + (1 : Int32)).toNatClampNeg)]) (st := [.int q185.1]) lv_RL_117 gk_59 rfl rfl (Nat.le_of_ble_eq_true rfl) (Nat.le_of_ble_eq_true rfl) rfl d_law_960) (fun q187 => ?_)
  refine SL.br (c := q185.1 = q187.1) (t := 1467) (e := 966) (fun Q kt kf => gl_icmp_eq d_law_963 rfl kt kf) (fun h188 => ?_) (fun h188 => ?_)
  · refine SL.of1 (pc2 := 1470) (L2 := [some (.ref 2000), some (.ref 0), some (.ref 59), some (.int (v3 + (6 : Int32)))]) (fun Q => gl_iinc d_law_1467 rfl (congrArg (fun z => v3 + z) (by decide)) (Nat.le_of_ble_eq_true rfl) rfl) ?_
    refine SL.of1 (pc2 := 18) (fun Q => gl_goto d_law_1470 rfl) ?_
    exact SL.wk (L2 := [some (.ref 2000), some (.ref 0), some (.ref 59), some (.int (v3 + (6 : Int32)))]) (And.intro rfl (And.intro rfl (And.intro rfl (And.intro rfl trivial)))) (hk18 (v3 + (6 : Int32)) q187.2)
  · refine SL.of1 (pc2 := 967) (fun Q => gl_iconst (v := (0 : Int32)) d_law_966 (by decide)) ?_
    exact SL.ret0
def f_law_j968 (XL : Nat) (xs : Nat → Int32) (k18 : Int32 → gS → Option Int32) (v3 : Int32) (σ : gS) : Option Int32 :=
  if gix (v3 + (1 : Int32)) XL then if gix (v3 + (2 : Int32)) XL then (f_T_paid (xs (v3 + (1 : Int32)).toNatClampNeg) (xs (v3 + (2 : Int32)).toNatClampNeg) σ).bind fun q192 => if gix (v3 + (1 : Int32)) XL then if gix (v3 + (2 : Int32)) XL then (f_M_paid (xs (v3 + (1 : Int32)).toNatClampNeg) (xs (v3 + (2 : Int32)).toNatClampNeg) q192.2).bind fun q195 => if q192.1 = q195.1 then k18 (v3 + (6 : Int32)) q195.2 else some (0 : Int32) else none else none else none else none
theorem s_law_j968 (XL : Nat) (xs : Nat → Int32) (k18 : Int32 → gS → Option Int32) (hk18 : ∀ (v3 : Int32) (τ : gS), SL XL xs 18 [some (.ref 2000), some (.ref 0), some (.ref 59), some (.int v3)] [] τ (k18 v3 τ)) (v3 : Int32) (σ : gS) : SL XL xs 968 [some (.ref 2000), some (.ref 0), some (.ref 59), some (.int v3)] [] σ (f_law_j968 XL xs k18 v3 σ) := by
  unfold f_law_j968
  refine SL.of1 (pc2 := 969) (fun Q => gl_aload_n d_law_968 rfl) ?_
  refine SL.of1 (pc2 := 970) (fun Q => gl_aload_n d_law_969 rfl) ?_
  refine SL.of1 (pc2 := 971) (fun Q => gl_iload_n d_law_970 rfl) ?_
  refine SL.of1 (pc2 := 972) (fun Q => gl_iconst (v := (1 : Int32)) d_law_971 (by decide)) ?_
  refine SL.of1 (pc2 := 973) (fun Q => gl_iadd d_law_972) ?_
  refine SL.chk (fun h190 => ?_)
  refine SL.of1 (pc2 := 974) (fun Q => gl_sald (gix_in h190) d_law_973) ?_
  refine SL.of1 (pc2 := 975) (fun Q => gl_aload_n d_law_974 rfl) ?_
  refine SL.of1 (pc2 := 976) (fun Q => gl_iload_n d_law_975 rfl) ?_
  refine SL.of1 (pc2 := 977) (fun Q => gl_iconst (v := (2 : Int32)) d_law_976 (by decide)) ?_
  refine SL.of1 (pc2 := 978) (fun Q => gl_iadd d_law_977) ?_
  refine SL.chk (fun h191 => ?_)
  refine SL.of1 (pc2 := 979) (fun Q => gl_sald (gix_in h191) d_law_978) ?_
  refine SL.call_wI (pc3 := 982) rfl (c_T_paid 1000 (by decide) (xs (v3 + (1 : Int32)).toNatClampNeg) (xs (v3 + (2 : Int32)).toNatClampNeg) σ) (fun Q => gl_callV (M2 := m_T_paid) (vs := [.int (xs (v3 + (1 : Int32)).toNatClampNeg), .int (xs (v3 + (2 : Int32)).toNatClampNeg)]) (st := []) lv_RL_118 gk_0 rfl rfl (Nat.le_of_ble_eq_true rfl) (Nat.le_of_ble_eq_true rfl) rfl d_law_979) (fun q192 => ?_)
  refine SL.of1 (pc2 := 983) (fun Q => gl_aload_n d_law_982 rfl) ?_
  refine SL.of1 (pc2 := 984) (fun Q => gl_aload_n d_law_983 rfl) ?_
  refine SL.of1 (pc2 := 985) (fun Q => gl_iload_n d_law_984 rfl) ?_
  refine SL.of1 (pc2 := 986) (fun Q => gl_iconst (v := (1 : Int32)) d_law_985 (by decide)) ?_
  refine SL.of1 (pc2 := 987) (fun Q => gl_iadd d_law_986) ?_
  refine SL.chk (fun h193 => ?_)
  refine SL.of1 (pc2 := 988) (fun Q => gl_sald (gix_in h193) d_law_987) ?_
  refine SL.of1 (pc2 := 989) (fun Q => gl_aload_n d_law_988 rfl) ?_
  refine SL.of1 (pc2 := 990) (fun Q => gl_iload_n d_law_989 rfl) ?_
  refine SL.of1 (pc2 := 991) (fun Q => gl_iconst (v := (2 : Int32)) d_law_990 (by decide)) ?_
  refine SL.of1 (pc2 := 992) (fun Q => gl_iadd d_law_991) ?_
  refine SL.chk (fun h194 => ?_)
  refine SL.of1 (pc2 := 993) (fun Q => gl_sald (gix_in h194) d_law_992) ?_
  refine SL.call_wI (pc3 := 996) rfl (c_M_paid 1000 (by decide) (xs (v3 + (1 : Int32)).toNatClampNeg) (xs (v3 + (2 : Int32)).toNatClampNeg) q192.2) (fun Q => gl_callV (M2 := m_M_paid) (vs := [.int (xs (v3 + (1 : Int32)).toNatClampNeg), .int (xs (v3 + (2 : Int32)).toNatClampNeg)]) (st := [.int q192.1]) lv_RL_121 gk_59 rfl rfl (Nat.le_of_ble_eq_true rfl) (Nat.le_of_ble_eq_true rfl) rfl d_law_993) (fun q195 => ?_)
  refine SL.br (c := q192.1 = q195.1) (t := 1467) (e := 999) (fun Q kt kf => gl_icmp_eq d_law_996 rfl kt kf) (fun h196 => ?_) (fun h196 => ?_)
  · refine SL.of1 (pc2 := 1470) (L2 := [some (.ref 2000), some (.ref 0), some (.ref 59), some (.int (v3 + (6 : Int32)))]) (fun Q => gl_iinc d_law_1467 rfl (congrArg (fun z => v3 + z) (by decide)) (Nat.le_of_ble_eq_true rfl) rfl) ?_
    refine SL.of1 (pc2 := 18) (fun Q => gl_goto d_law_1470 rfl) ?_
    exact SL.wk (L2 := [some (.ref 2000), some (.ref 0), some (.ref 59), some (.int (v3 + (6 : Int32)))]) (And.intro rfl (And.intro rfl (And.intro rfl (And.intro rfl trivial)))) (hk18 (v3 + (6 : Int32)) q195.2)
  · refine SL.of1 (pc2 := 1000) (fun Q => gl_iconst (v := (0 : Int32)) d_law_999 (by decide)) ?_
    exact SL.ret0
def f_law_j1001 (XL : Nat) (xs : Nat → Int32) (k18 : Int32 → gS → Option Int32) (v3 : Int32) (σ : gS) : Option Int32 :=
  if gix (v3 + (1 : Int32)) XL then (f_T_led (xs (v3 + (1 : Int32)).toNatClampNeg) σ).bind fun q199 => if gix (v3 + (1 : Int32)) XL then (f_M_led (xs (v3 + (1 : Int32)).toNatClampNeg) σ).bind fun q201 => if q199 = q201 then k18 (v3 + (6 : Int32)) σ else some (0 : Int32) else none else none
theorem s_law_j1001 (XL : Nat) (xs : Nat → Int32) (k18 : Int32 → gS → Option Int32) (hk18 : ∀ (v3 : Int32) (τ : gS), SL XL xs 18 [some (.ref 2000), some (.ref 0), some (.ref 59), some (.int v3)] [] τ (k18 v3 τ)) (v3 : Int32) (σ : gS) : SL XL xs 1001 [some (.ref 2000), some (.ref 0), some (.ref 59), some (.int v3)] [] σ (f_law_j1001 XL xs k18 v3 σ) := by
  unfold f_law_j1001
  refine SL.of1 (pc2 := 1002) (fun Q => gl_aload_n d_law_1001 rfl) ?_
  refine SL.of1 (pc2 := 1003) (fun Q => gl_aload_n d_law_1002 rfl) ?_
  refine SL.of1 (pc2 := 1004) (fun Q => gl_iload_n d_law_1003 rfl) ?_
  refine SL.of1 (pc2 := 1005) (fun Q => gl_iconst (v := (1 : Int32)) d_law_1004 (by decide)) ?_
  refine SL.of1 (pc2 := 1006) (fun Q => gl_iadd d_law_1005) ?_
  refine SL.chk (fun h198 => ?_)
  refine SL.of1 (pc2 := 1007) (fun Q => gl_sald (gix_in h198) d_law_1006) ?_
  refine SL.call_rI (pc3 := 1010) rfl (c_T_led 1000 (by decide) (xs (v3 + (1 : Int32)).toNatClampNeg) σ) (fun Q => gl_callV (M2 := m_T_led) (vs := [.int (xs (v3 + (1 : Int32)).toNatClampNeg)]) (st := []) lv_RL_122 gk_0 rfl rfl (Nat.le_of_ble_eq_true rfl) (Nat.le_of_ble_eq_true rfl) rfl d_law_1007) (fun q199 => ?_)
  refine SL.of1 (pc2 := 1011) (fun Q => gl_aload_n d_law_1010 rfl) ?_
  refine SL.of1 (pc2 := 1012) (fun Q => gl_aload_n d_law_1011 rfl) ?_
  refine SL.of1 (pc2 := 1013) (fun Q => gl_iload_n d_law_1012 rfl) ?_
  refine SL.of1 (pc2 := 1014) (fun Q => gl_iconst (v := (1 : Int32)) d_law_1013 (by decide)) ?_
  refine SL.of1 (pc2 := 1015) (fun Q => gl_iadd d_law_1014) ?_
  refine SL.chk (fun h200 => ?_)
  refine SL.of1 (pc2 := 1016) (fun Q => gl_sald (gix_in h200) d_law_1015) ?_
  refine SL.call_rI (pc3 := 1019) rfl (c_M_led 1000 (by decide) (xs (v3 + (1 : Int32)).toNatClampNeg) σ) (fun Q => gl_callV (M2 := m_M_led) (vs := [.int (xs (v3 + (1 : Int32)).toNatClampNeg)]) (st := [.int q199]) lv_RL_125 gk_59 rfl rfl (Nat.le_of_ble_eq_true rfl) (Nat.le_of_ble_eq_true rfl) rfl d_law_1016) (fun q201 => ?_)
  refine SL.br (c := q199 = q201) (t := 1467) (e := 1022) (fun Q kt kf => gl_icmp_eq d_law_1019 rfl kt kf) (fun h202 => ?_) (fun h202 => ?_)
  · refine SL.of1 (pc2 := 1470) (L2 := [some (.ref 2000), some (.ref 0), some (.ref 59), some (.int (v3 + (6 : Int32)))]) (fun Q => gl_iinc d_law_1467 rfl (congrArg (fun z => v3 + z) (by decide)) (Nat.le_of_ble_eq_true rfl) rfl) ?_
    refine SL.of1 (pc2 := 18) (fun Q => gl_goto d_law_1470 rfl) ?_
    exact SL.wk (L2 := [some (.ref 2000), some (.ref 0), some (.ref 59), some (.int (v3 + (6 : Int32)))]) (And.intro rfl (And.intro rfl (And.intro rfl (And.intro rfl trivial)))) (hk18 (v3 + (6 : Int32)) σ)
  · refine SL.of1 (pc2 := 1023) (fun Q => gl_iconst (v := (0 : Int32)) d_law_1022 (by decide)) ?_
    exact SL.ret0
def f_law_j1024 (XL : Nat) (xs : Nat → Int32) (k18 : Int32 → gS → Option Int32) (v3 : Int32) (σ : gS) : Option Int32 :=
  (f_T_image σ).bind fun q204 => (f_M_image q204.2).bind fun q205 => if q204.1 = q205.1 then k18 (v3 + (6 : Int32)) q205.2 else some (0 : Int32)
theorem s_law_j1024 (XL : Nat) (xs : Nat → Int32) (k18 : Int32 → gS → Option Int32) (hk18 : ∀ (v3 : Int32) (τ : gS), SL XL xs 18 [some (.ref 2000), some (.ref 0), some (.ref 59), some (.int v3)] [] τ (k18 v3 τ)) (v3 : Int32) (σ : gS) : SL XL xs 1024 [some (.ref 2000), some (.ref 0), some (.ref 59), some (.int v3)] [] σ (f_law_j1024 XL xs k18 v3 σ) := by
  unfold f_law_j1024
  refine SL.of1 (pc2 := 1025) (fun Q => gl_aload_n d_law_1024 rfl) ?_
  refine SL.call_wI (pc3 := 1028) rfl (c_T_image 1000 (by decide) σ) (fun Q => gl_callV (M2 := m_T_image) (vs := []) (st := []) lv_RL_126 gk_0 rfl rfl (Nat.le_of_ble_eq_true rfl) (Nat.le_of_ble_eq_true rfl) rfl d_law_1025) (fun q204 => ?_)
  refine SL.of1 (pc2 := 1029) (fun Q => gl_aload_n d_law_1028 rfl) ?_
  refine SL.call_wI (pc3 := 1032) rfl (c_M_image 1000 (by decide) q204.2) (fun Q => gl_callV (M2 := m_M_image) (vs := []) (st := [.int q204.1]) lv_RL_129 gk_59 rfl rfl (Nat.le_of_ble_eq_true rfl) (Nat.le_of_ble_eq_true rfl) rfl d_law_1029) (fun q205 => ?_)
  refine SL.br (c := q204.1 = q205.1) (t := 1467) (e := 1035) (fun Q kt kf => gl_icmp_eq d_law_1032 rfl kt kf) (fun h206 => ?_) (fun h206 => ?_)
  · refine SL.of1 (pc2 := 1470) (L2 := [some (.ref 2000), some (.ref 0), some (.ref 59), some (.int (v3 + (6 : Int32)))]) (fun Q => gl_iinc d_law_1467 rfl (congrArg (fun z => v3 + z) (by decide)) (Nat.le_of_ble_eq_true rfl) rfl) ?_
    refine SL.of1 (pc2 := 18) (fun Q => gl_goto d_law_1470 rfl) ?_
    exact SL.wk (L2 := [some (.ref 2000), some (.ref 0), some (.ref 59), some (.int (v3 + (6 : Int32)))]) (And.intro rfl (And.intro rfl (And.intro rfl (And.intro rfl trivial)))) (hk18 (v3 + (6 : Int32)) q205.2)
  · refine SL.of1 (pc2 := 1036) (fun Q => gl_iconst (v := (0 : Int32)) d_law_1035 (by decide)) ?_
    exact SL.ret0
def f_law_j1037 (XL : Nat) (xs : Nat → Int32) (k18 : Int32 → gS → Option Int32) (v3 : Int32) (σ : gS) : Option Int32 :=
  (f_T_back σ).bind fun q208 => (f_M_back q208.2).bind fun q209 => if q208.1 = q209.1 then k18 (v3 + (6 : Int32)) q209.2 else some (0 : Int32)
theorem s_law_j1037 (XL : Nat) (xs : Nat → Int32) (k18 : Int32 → gS → Option Int32) (hk18 : ∀ (v3 : Int32) (τ : gS), SL XL xs 18 [some (.ref 2000), some (.ref 0), some (.ref 59), some (.int v3)] [] τ (k18 v3 τ)) (v3 : Int32) (σ : gS) : SL XL xs 1037 [some (.ref 2000), some (.ref 0), some (.ref 59), some (.int v3)] [] σ (f_law_j1037 XL xs k18 v3 σ) := by
  unfold f_law_j1037
  refine SL.of1 (pc2 := 1038) (fun Q => gl_aload_n d_law_1037 rfl) ?_
  refine SL.call_wI (pc3 := 1041) rfl (c_T_back 1000 (by decide) σ) (fun Q => gl_callV (M2 := m_T_back) (vs := []) (st := []) lv_RL_130 gk_0 rfl rfl (Nat.le_of_ble_eq_true rfl) (Nat.le_of_ble_eq_true rfl) rfl d_law_1038) (fun q208 => ?_)
  refine SL.of1 (pc2 := 1042) (fun Q => gl_aload_n d_law_1041 rfl) ?_
  refine SL.call_wI (pc3 := 1045) rfl (c_M_back 1000 (by decide) q208.2) (fun Q => gl_callV (M2 := m_M_back) (vs := []) (st := [.int q208.1]) lv_RL_133 gk_59 rfl rfl (Nat.le_of_ble_eq_true rfl) (Nat.le_of_ble_eq_true rfl) rfl d_law_1042) (fun q209 => ?_)
  refine SL.br (c := q208.1 = q209.1) (t := 1467) (e := 1048) (fun Q kt kf => gl_icmp_eq d_law_1045 rfl kt kf) (fun h210 => ?_) (fun h210 => ?_)
  · refine SL.of1 (pc2 := 1470) (L2 := [some (.ref 2000), some (.ref 0), some (.ref 59), some (.int (v3 + (6 : Int32)))]) (fun Q => gl_iinc d_law_1467 rfl (congrArg (fun z => v3 + z) (by decide)) (Nat.le_of_ble_eq_true rfl) rfl) ?_
    refine SL.of1 (pc2 := 18) (fun Q => gl_goto d_law_1470 rfl) ?_
    exact SL.wk (L2 := [some (.ref 2000), some (.ref 0), some (.ref 59), some (.int (v3 + (6 : Int32)))]) (And.intro rfl (And.intro rfl (And.intro rfl (And.intro rfl trivial)))) (hk18 (v3 + (6 : Int32)) q209.2)
  · refine SL.of1 (pc2 := 1049) (fun Q => gl_iconst (v := (0 : Int32)) d_law_1048 (by decide)) ?_
    exact SL.ret0
def f_law_j1050 (XL : Nat) (xs : Nat → Int32) (k18 : Int32 → gS → Option Int32) (v3 : Int32) (σ : gS) : Option Int32 :=
  (f_T_undo σ).bind fun q212 => (f_M_undo q212.2).bind fun q213 => if q212.1 = q213.1 then k18 (v3 + (6 : Int32)) q213.2 else some (0 : Int32)
theorem s_law_j1050 (XL : Nat) (xs : Nat → Int32) (k18 : Int32 → gS → Option Int32) (hk18 : ∀ (v3 : Int32) (τ : gS), SL XL xs 18 [some (.ref 2000), some (.ref 0), some (.ref 59), some (.int v3)] [] τ (k18 v3 τ)) (v3 : Int32) (σ : gS) : SL XL xs 1050 [some (.ref 2000), some (.ref 0), some (.ref 59), some (.int v3)] [] σ (f_law_j1050 XL xs k18 v3 σ) := by
  unfold f_law_j1050
  refine SL.of1 (pc2 := 1051) (fun Q => gl_aload_n d_law_1050 rfl) ?_
  refine SL.call_wI (pc3 := 1054) rfl (c_T_undo 1000 (by decide) σ) (fun Q => gl_callV (M2 := m_T_undo) (vs := []) (st := []) lv_RL_134 gk_0 rfl rfl (Nat.le_of_ble_eq_true rfl) (Nat.le_of_ble_eq_true rfl) rfl d_law_1051) (fun q212 => ?_)
  refine SL.of1 (pc2 := 1055) (fun Q => gl_aload_n d_law_1054 rfl) ?_
  refine SL.call_wI (pc3 := 1058) rfl (c_M_undo 1000 (by decide) q212.2) (fun Q => gl_callV (M2 := m_M_undo) (vs := []) (st := [.int q212.1]) lv_RL_137 gk_59 rfl rfl (Nat.le_of_ble_eq_true rfl) (Nat.le_of_ble_eq_true rfl) rfl d_law_1055) (fun q213 => ?_)
  refine SL.br (c := q212.1 = q213.1) (t := 1467) (e := 1061) (fun Q kt kf => gl_icmp_eq d_law_1058 rfl kt kf) (fun h214 => ?_) (fun h214 => ?_)
  · refine SL.of1 (pc2 := 1470) (L2 := [some (.ref 2000), some (.ref 0), some (.ref 59), some (.int (v3 + (6 : Int32)))]) (fun Q => gl_iinc d_law_1467 rfl (congrArg (fun z => v3 + z) (by decide)) (Nat.le_of_ble_eq_true rfl) rfl) ?_
    refine SL.of1 (pc2 := 18) (fun Q => gl_goto d_law_1470 rfl) ?_
    exact SL.wk (L2 := [some (.ref 2000), some (.ref 0), some (.ref 59), some (.int (v3 + (6 : Int32)))]) (And.intro rfl (And.intro rfl (And.intro rfl (And.intro rfl trivial)))) (hk18 (v3 + (6 : Int32)) q213.2)
  · refine SL.of1 (pc2 := 1062) (fun Q => gl_iconst (v := (0 : Int32)) d_law_1061 (by decide)) ?_
    exact SL.ret0
def f_law_j1063 (XL : Nat) (xs : Nat → Int32) (k18 : Int32 → gS → Option Int32) (v3 : Int32) (σ : gS) : Option Int32 :=
  (f_T_redo σ).bind fun q216 => (f_M_redo q216.2).bind fun q217 => if q216.1 = q217.1 then k18 (v3 + (6 : Int32)) q217.2 else some (0 : Int32)
theorem s_law_j1063 (XL : Nat) (xs : Nat → Int32) (k18 : Int32 → gS → Option Int32) (hk18 : ∀ (v3 : Int32) (τ : gS), SL XL xs 18 [some (.ref 2000), some (.ref 0), some (.ref 59), some (.int v3)] [] τ (k18 v3 τ)) (v3 : Int32) (σ : gS) : SL XL xs 1063 [some (.ref 2000), some (.ref 0), some (.ref 59), some (.int v3)] [] σ (f_law_j1063 XL xs k18 v3 σ) := by
  unfold f_law_j1063
  refine SL.of1 (pc2 := 1064) (fun Q => gl_aload_n d_law_1063 rfl) ?_
  refine SL.call_wI (pc3 := 1067) rfl (c_T_redo 1000 (by decide) σ) (fun Q => gl_callV (M2 := m_T_redo) (vs := []) (st := []) lv_RL_138 gk_0 rfl rfl (Nat.le_of_ble_eq_true rfl) (Nat.le_of_ble_eq_true rfl) rfl d_law_1064) (fun q216 => ?_)
  refine SL.of1 (pc2 := 1068) (fun Q => gl_aload_n d_law_1067 rfl) ?_
  refine SL.call_wI (pc3 := 1071) rfl (c_M_redo 1000 (by decide) q216.2) (fun Q => gl_callV (M2 := m_M_redo) (vs := []) (st := [.int q216.1]) lv_RL_141 gk_59 rfl rfl (Nat.le_of_ble_eq_true rfl) (Nat.le_of_ble_eq_true rfl) rfl d_law_1068) (fun q217 => ?_)
  refine SL.br (c := q216.1 = q217.1) (t := 1467) (e := 1074) (fun Q kt kf => gl_icmp_eq d_law_1071 rfl kt kf) (fun h218 => ?_) (fun h218 => ?_)
  · refine SL.of1 (pc2 := 1470) (L2 := [some (.ref 2000), some (.ref 0), some (.ref 59), some (.int (v3 + (6 : Int32)))]) (fun Q => gl_iinc d_law_1467 rfl (congrArg (fun z => v3 + z) (by decide)) (Nat.le_of_ble_eq_true rfl) rfl) ?_
    refine SL.of1 (pc2 := 18) (fun Q => gl_goto d_law_1470 rfl) ?_
    exact SL.wk (L2 := [some (.ref 2000), some (.ref 0), some (.ref 59), some (.int (v3 + (6 : Int32)))]) (And.intro rfl (And.intro rfl (And.intro rfl (And.intro rfl trivial)))) (hk18 (v3 + (6 : Int32)) q217.2)
  · refine SL.of1 (pc2 := 1075) (fun Q => gl_iconst (v := (0 : Int32)) d_law_1074 (by decide)) ?_
    exact SL.ret0
def f_law_j1076 (XL : Nat) (xs : Nat → Int32) (k18 : Int32 → gS → Option Int32) (v3 : Int32) (σ : gS) : Option Int32 :=
  if gix (v3 + (1 : Int32)) XL then (f_T_body (xs (v3 + (1 : Int32)).toNatClampNeg) σ).bind fun q221 => if gix (v3 + (1 : Int32)) XL then (f_M_body (xs (v3 + (1 : Int32)).toNatClampNeg) q221.2).bind fun q223 => if q221.1 = q223.1 then k18 (v3 + (6 : Int32)) q223.2 else some (0 : Int32) else none else none
theorem s_law_j1076 (XL : Nat) (xs : Nat → Int32) (k18 : Int32 → gS → Option Int32) (hk18 : ∀ (v3 : Int32) (τ : gS), SL XL xs 18 [some (.ref 2000), some (.ref 0), some (.ref 59), some (.int v3)] [] τ (k18 v3 τ)) (v3 : Int32) (σ : gS) : SL XL xs 1076 [some (.ref 2000), some (.ref 0), some (.ref 59), some (.int v3)] [] σ (f_law_j1076 XL xs k18 v3 σ) := by
  unfold f_law_j1076
  refine SL.of1 (pc2 := 1077) (fun Q => gl_aload_n d_law_1076 rfl) ?_
  refine SL.of1 (pc2 := 1078) (fun Q => gl_aload_n d_law_1077 rfl) ?_
  refine SL.of1 (pc2 := 1079) (fun Q => gl_iload_n d_law_1078 rfl) ?_
  refine SL.of1 (pc2 := 1080) (fun Q => gl_iconst (v := (1 : Int32)) d_law_1079 (by decide)) ?_
  refine SL.of1 (pc2 := 1081) (fun Q => gl_iadd d_law_1080) ?_
  refine SL.chk (fun h220 => ?_)
  refine SL.of1 (pc2 := 1082) (fun Q => gl_sald (gix_in h220) d_law_1081) ?_
  refine SL.call_wI (pc3 := 1085) rfl (c_T_body 1000 (by decide) (xs (v3 + (1 : Int32)).toNatClampNeg) σ) (fun Q => gl_callV (M2 := m_T_body) (vs := [.int (xs (v3 + (1 : Int32)).toNatClampNeg)]) (st := []) lv_RL_142 gk_0 rfl rfl (Nat.le_of_ble_eq_true rfl) (Nat.le_of_ble_eq_true rfl) rfl d_law_1082) (fun q221 => ?_)
  refine SL.of1 (pc2 := 1086) (fun Q => gl_aload_n d_law_1085 rfl) ?_
  refine SL.of1 (pc2 := 1087) (fun Q => gl_aload_n d_law_1086 rfl) ?_
  refine SL.of1 (pc2 := 1088) (fun Q => gl_iload_n d_law_1087 rfl) ?_
  refine SL.of1 (pc2 := 1089) (fun Q => gl_iconst (v := (1 : Int32)) d_law_1088 (by decide)) ?_
  refine SL.of1 (pc2 := 1090) (fun Q => gl_iadd d_law_1089) ?_
  refine SL.chk (fun h222 => ?_)
  refine SL.of1 (pc2 := 1091) (fun Q => gl_sald (gix_in h222) d_law_1090) ?_
  refine SL.call_wI (pc3 := 1094) rfl (c_M_body 1000 (by decide) (xs (v3 + (1 : Int32)).toNatClampNeg) q221.2) (fun Q => gl_callV (M2 := m_M_body) (vs := [.int (xs (v3 + (1 : Int32)).toNatClampNeg)]) (st := [.int q221.1]) lv_RL_145 gk_59 rfl rfl (Nat.le_of_ble_eq_true rfl) (Nat.le_of_ble_eq_true rfl) rfl d_law_1091) (fun q223 => ?_)
  refine SL.br (c := q221.1 = q223.1) (t := 1467) (e := 1097) (fun Q kt kf => gl_icmp_eq d_law_1094 rfl kt kf) (fun h224 => ?_) (fun h224 => ?_)
  · refine SL.of1 (pc2 := 1470) (L2 := [some (.ref 2000), some (.ref 0), some (.ref 59), some (.int (v3 + (6 : Int32)))]) (fun Q => gl_iinc d_law_1467 rfl (congrArg (fun z => v3 + z) (by decide)) (Nat.le_of_ble_eq_true rfl) rfl) ?_
    refine SL.of1 (pc2 := 18) (fun Q => gl_goto d_law_1470 rfl) ?_
    exact SL.wk (L2 := [some (.ref 2000), some (.ref 0), some (.ref 59), some (.int (v3 + (6 : Int32)))]) (And.intro rfl (And.intro rfl (And.intro rfl (And.intro rfl trivial)))) (hk18 (v3 + (6 : Int32)) q223.2)
  · refine SL.of1 (pc2 := 1098) (fun Q => gl_iconst (v := (0 : Int32)) d_law_1097 (by decide)) ?_
    exact SL.ret0
def f_law_j1099 (XL : Nat) (xs : Nat → Int32) (k18 : Int32 → gS → Option Int32) (v3 : Int32) (σ : gS) : Option Int32 :=
  if gix (v3 + (1 : Int32)) XL then if gix (v3 + (2 : Int32)) XL then if gix (v3 + (3 : Int32)) XL then (f_T_act (xs (v3 + (1 : Int32)).toNatClampNeg) (xs (v3 + (2 : Int32)).toNatClampNeg) (xs (v3 + (3 : Int32)).toNatClampNeg) σ).bind fun q229 => if gix (v3 + (1 : Int32)) XL then if gix (v3 + (2 : Int32)) XL then if gix (v3 + (3 : Int32)) XL then (f_M_act (xs (v3 + (1 : Int32)).toNatClampNeg) (xs (v3 + (2 : Int32)).toNatClampNeg) (xs (v3 + (3 : Int32)).toNatClampNeg) q229.2).bind fun q233 => if q229.1 = q233.1 then k18 (v3 + (6 : Int32)) q233.2 else some (0 : Int32) else none else none else none else none else none else none
theorem s_law_j1099 (XL : Nat) (xs : Nat → Int32) (k18 : Int32 → gS → Option Int32) (hk18 : ∀ (v3 : Int32) (τ : gS), SL XL xs 18 [some (.ref 2000), some (.ref 0), some (.ref 59), some (.int v3)] [] τ (k18 v3 τ)) (v3 : Int32) (σ : gS) : SL XL xs 1099 [some (.ref 2000), some (.ref 0), some (.ref 59), some (.int v3)] [] σ (f_law_j1099 XL xs k18 v3 σ) := by
  unfold f_law_j1099
  refine SL.of1 (pc2 := 1100) (fun Q => gl_aload_n d_law_1099 rfl) ?_
  refine SL.of1 (pc2 := 1101) (fun Q => gl_aload_n d_law_1100 rfl) ?_
  refine SL.of1 (pc2 := 1102) (fun Q => gl_iload_n d_law_1101 rfl) ?_
  refine SL.of1 (pc2 := 1103) (fun Q => gl_iconst (v := (1 : Int32)) d_law_1102 (by decide)) ?_
  refine SL.of1 (pc2 := 1104) (fun Q => gl_iadd d_law_1103) ?_
  refine SL.chk (fun h226 => ?_)
  refine SL.of1 (pc2 := 1105) (fun Q => gl_sald (gix_in h226) d_law_1104) ?_
  refine SL.of1 (pc2 := 1106) (fun Q => gl_aload_n d_law_1105 rfl) ?_
  refine SL.of1 (pc2 := 1107) (fun Q => gl_iload_n d_law_1106 rfl) ?_
  refine SL.of1 (pc2 := 1108) (fun Q => gl_iconst (v := (2 : Int32)) d_law_1107 (by decide)) ?_
  refine SL.of1 (pc2 := 1109) (fun Q => gl_iadd d_law_1108) ?_
  refine SL.chk (fun h227 => ?_)
  refine SL.of1 (pc2 := 1110) (fun Q => gl_sald (gix_in h227) d_law_1109) ?_
  refine SL.of1 (pc2 := 1111) (fun Q => gl_aload_n d_law_1110 rfl) ?_
  refine SL.of1 (pc2 := 1112) (fun Q => gl_iload_n d_law_1111 rfl) ?_
  refine SL.of1 (pc2 := 1113) (fun Q => gl_iconst (v := (3 : Int32)) d_law_1112 (by decide)) ?_
  refine SL.of1 (pc2 := 1114) (fun Q => gl_iadd d_law_1113) ?_
  refine SL.chk (fun h228 => ?_)
  refine SL.of1 (pc2 := 1115) (fun Q => gl_sald (gix_in h228) d_law_1114) ?_
  refine SL.call_wI (pc3 := 1118) rfl (c_T_act 1000 (by decide) (xs (v3 + (1 : Int32)).toNatClampNeg) (xs (v3 + (2 : Int32)).toNatClampNeg) (xs (v3 + (3 : Int32)).toNatClampNeg) σ) (fun Q => gl_callV (M2 := m_T_act) (vs := [.int (xs (v3 + (1 : Int32)).toNatClampNeg), .int (xs (v3 + (2 : Int32)).toNatClampNeg), .int (xs (v3 + (3 : Int32)).toNatClampNeg)]) (st := []) lv_RL_146 gk_0 rfl rfl (Nat.le_of_ble_eq_true rfl) (Nat.le_of_ble_eq_true rfl) rfl d_law_1115) (fun q229 => ?_)
  refine SL.of1 (pc2 := 1119) (fun Q => gl_aload_n d_law_1118 rfl) ?_
  refine SL.of1 (pc2 := 1120) (fun Q => gl_aload_n d_law_1119 rfl) ?_
  refine SL.of1 (pc2 := 1121) (fun Q => gl_iload_n d_law_1120 rfl) ?_
  refine SL.of1 (pc2 := 1122) (fun Q => gl_iconst (v := (1 : Int32)) d_law_1121 (by decide)) ?_
  refine SL.of1 (pc2 := 1123) (fun Q => gl_iadd d_law_1122) ?_
  refine SL.chk (fun h230 => ?_)
  refine SL.of1 (pc2 := 1124) (fun Q => gl_sald (gix_in h230) d_law_1123) ?_
  refine SL.of1 (pc2 := 1125) (fun Q => gl_aload_n d_law_1124 rfl) ?_
  refine SL.of1 (pc2 := 1126) (fun Q => gl_iload_n d_law_1125 rfl) ?_
  refine SL.of1 (pc2 := 1127) (fun Q => gl_iconst (v := (2 : Int32)) d_law_1126 (by decide)) ?_
  refine SL.of1 (pc2 := 1128) (fun Q => gl_iadd d_law_1127) ?_
  refine SL.chk (fun h231 => ?_)
  refine SL.of1 (pc2 := 1129) (fun Q => gl_sald (gix_in h231) d_law_1128) ?_
  refine SL.of1 (pc2 := 1130) (fun Q => gl_aload_n d_law_1129 rfl) ?_
  refine SL.of1 (pc2 := 1131) (fun Q => gl_iload_n d_law_1130 rfl) ?_
  refine SL.of1 (pc2 := 1132) (fun Q => gl_iconst (v := (3 : Int32)) d_law_1131 (by decide)) ?_
  refine SL.of1 (pc2 := 1133) (fun Q => gl_iadd d_law_1132) ?_
  refine SL.chk (fun h232 => ?_)
  refine SL.of1 (pc2 := 1134) (fun Q => gl_sald (gix_in h232) d_law_1133) ?_
  refine SL.call_wI (pc3 := 1137) rfl (c_M_act 1000 (by decide) (xs (v3 + (1 : Int32)).toNatClampNeg) (xs (v3 + (2 : Int32)).toNatClampNeg) (xs (v3 + (3 : Int32)).toNatClampNeg) q229.2) (fun Q => gl_callV (M2 := m_M_act) (vs := [.int (xs (v3 + (1 : Int32)).toNatClampNeg), .int (xs (v3 + (2 : Int32)).toNatClampNeg), .int (xs (v3 + (3 : Int32)).toNatClampNeg)]) (st := [.int q229.1]) lv_RL_149 gk_59 rfl rfl (Nat.le_of_ble_eq_true rfl) (Nat.le_of_ble_eq_true rfl) rfl d_law_1134) (fun q233 => ?_)
  refine SL.br (c := q229.1 = q233.1) (t := 1467) (e := 1140) (fun Q kt kf => gl_icmp_eq d_law_1137 rfl kt kf) (fun h234 => ?_) (fun h234 => ?_)
  · refine SL.of1 (pc2 := 1470) (L2 := [some (.ref 2000), some (.ref 0), some (.ref 59), some (.int (v3 + (6 : Int32)))]) (fun Q => gl_iinc d_law_1467 rfl (congrArg (fun z => v3 + z) (by decide)) (Nat.le_of_ble_eq_true rfl) rfl) ?_
    refine SL.of1 (pc2 := 18) (fun Q => gl_goto d_law_1470 rfl) ?_
    exact SL.wk (L2 := [some (.ref 2000), some (.ref 0), some (.ref 59), some (.int (v3 + (6 : Int32)))]) (And.intro rfl (And.intro rfl (And.intro rfl (And.intro rfl trivial)))) (hk18 (v3 + (6 : Int32)) q233.2)
  · refine SL.of1 (pc2 := 1141) (fun Q => gl_iconst (v := (0 : Int32)) d_law_1140 (by decide)) ?_
    exact SL.ret0
def f_law_j1142 (XL : Nat) (xs : Nat → Int32) (k18 : Int32 → gS → Option Int32) (v3 : Int32) (σ : gS) : Option Int32 :=
  if gix (v3 + (1 : Int32)) XL then (f_T_trace (xs (v3 + (1 : Int32)).toNatClampNeg) σ).bind fun q237 => if gix (v3 + (1 : Int32)) XL then (f_M_trace (xs (v3 + (1 : Int32)).toNatClampNeg) σ).bind fun q239 => if q237 = q239 then k18 (v3 + (6 : Int32)) σ else some (0 : Int32) else none else none
theorem s_law_j1142 (XL : Nat) (xs : Nat → Int32) (k18 : Int32 → gS → Option Int32) (hk18 : ∀ (v3 : Int32) (τ : gS), SL XL xs 18 [some (.ref 2000), some (.ref 0), some (.ref 59), some (.int v3)] [] τ (k18 v3 τ)) (v3 : Int32) (σ : gS) : SL XL xs 1142 [some (.ref 2000), some (.ref 0), some (.ref 59), some (.int v3)] [] σ (f_law_j1142 XL xs k18 v3 σ) := by
  unfold f_law_j1142
  refine SL.of1 (pc2 := 1143) (fun Q => gl_aload_n d_law_1142 rfl) ?_
  refine SL.of1 (pc2 := 1144) (fun Q => gl_aload_n d_law_1143 rfl) ?_
  refine SL.of1 (pc2 := 1145) (fun Q => gl_iload_n d_law_1144 rfl) ?_
  refine SL.of1 (pc2 := 1146) (fun Q => gl_iconst (v := (1 : Int32)) d_law_1145 (by decide)) ?_
  refine SL.of1 (pc2 := 1147) (fun Q => gl_iadd d_law_1146) ?_
  refine SL.chk (fun h236 => ?_)
  refine SL.of1 (pc2 := 1148) (fun Q => gl_sald (gix_in h236) d_law_1147) ?_
  refine SL.call_rI (pc3 := 1151) rfl (c_T_trace 1000 (by decide) (xs (v3 + (1 : Int32)).toNatClampNeg) σ) (fun Q => gl_callV (M2 := m_T_trace) (vs := [.int (xs (v3 + (1 : Int32)).toNatClampNeg)]) (st := []) lv_RL_150 gk_0 rfl rfl (Nat.le_of_ble_eq_true rfl) (Nat.le_of_ble_eq_true rfl) rfl d_law_1148) (fun q237 => ?_)
  refine SL.of1 (pc2 := 1152) (fun Q => gl_aload_n d_law_1151 rfl) ?_
  refine SL.of1 (pc2 := 1153) (fun Q => gl_aload_n d_law_1152 rfl) ?_
  refine SL.of1 (pc2 := 1154) (fun Q => gl_iload_n d_law_1153 rfl) ?_
  refine SL.of1 (pc2 := 1155) (fun Q => gl_iconst (v := (1 : Int32)) d_law_1154 (by decide)) ?_
  refine SL.of1 (pc2 := 1156) (fun Q => gl_iadd d_law_1155) ?_
  refine SL.chk (fun h238 => ?_)
  refine SL.of1 (pc2 := 1157) (fun Q => gl_sald (gix_in h238) d_law_1156) ?_
  refine SL.call_rI (pc3 := 1160) rfl (c_M_trace 1000 (by decide) (xs (v3 + (1 : Int32)).toNatClampNeg) σ) (fun Q => gl_callV (M2 := m_M_trace) (vs := [.int (xs (v3 + (1 : Int32)).toNatClampNeg)]) (st := [.int q237]) lv_RL_153 gk_59 rfl rfl (Nat.le_of_ble_eq_true rfl) (Nat.le_of_ble_eq_true rfl) rfl d_law_1157) (fun q239 => ?_)
  refine SL.br (c := q237 = q239) (t := 1467) (e := 1163) (fun Q kt kf => gl_icmp_eq d_law_1160 rfl kt kf) (fun h240 => ?_) (fun h240 => ?_)
  · refine SL.of1 (pc2 := 1470) (L2 := [some (.ref 2000), some (.ref 0), some (.ref 59), some (.int (v3 + (6 : Int32)))]) (fun Q => gl_iinc d_law_1467 rfl (congrArg (fun z => v3 + z) (by decide)) (Nat.le_of_ble_eq_true rfl) rfl) ?_
    refine SL.of1 (pc2 := 18) (fun Q => gl_goto d_law_1470 rfl) ?_
    exact SL.wk (L2 := [some (.ref 2000), some (.ref 0), some (.ref 59), some (.int (v3 + (6 : Int32)))]) (And.intro rfl (And.intro rfl (And.intro rfl (And.intro rfl trivial)))) (hk18 (v3 + (6 : Int32)) σ)
  · refine SL.of1 (pc2 := 1164) (fun Q => gl_iconst (v := (0 : Int32)) d_law_1163 (by decide)) ?_
    exact SL.ret0
def f_law_j1165 (XL : Nat) (xs : Nat → Int32) (k18 : Int32 → gS → Option Int32) (v3 : Int32) (σ : gS) : Option Int32 :=
  if gix (v3 + (1 : Int32)) XL then if gix (v3 + (2 : Int32)) XL then (f_T_keep (xs (v3 + (1 : Int32)).toNatClampNeg) (xs (v3 + (2 : Int32)).toNatClampNeg) σ).bind fun q244 => if gix (v3 + (1 : Int32)) XL then if gix (v3 + (2 : Int32)) XL then (f_M_keep (xs (v3 + (1 : Int32)).toNatClampNeg) (xs (v3 + (2 : Int32)).toNatClampNeg) q244.2).bind fun q247 => if q244.1 = q247.1 then k18 (v3 + (6 : Int32)) q247.2 else some (0 : Int32) else none else none else none else none
theorem s_law_j1165 (XL : Nat) (xs : Nat → Int32) (k18 : Int32 → gS → Option Int32) (hk18 : ∀ (v3 : Int32) (τ : gS), SL XL xs 18 [some (.ref 2000), some (.ref 0), some (.ref 59), some (.int v3)] [] τ (k18 v3 τ)) (v3 : Int32) (σ : gS) : SL XL xs 1165 [some (.ref 2000), some (.ref 0), some (.ref 59), some (.int v3)] [] σ (f_law_j1165 XL xs k18 v3 σ) := by
  unfold f_law_j1165
  refine SL.of1 (pc2 := 1166) (fun Q => gl_aload_n d_law_1165 rfl) ?_
  refine SL.of1 (pc2 := 1167) (fun Q => gl_aload_n d_law_1166 rfl) ?_
  refine SL.of1 (pc2 := 1168) (fun Q => gl_iload_n d_law_1167 rfl) ?_
  refine SL.of1 (pc2 := 1169) (fun Q => gl_iconst (v := (1 : Int32)) d_law_1168 (by decide)) ?_
  refine SL.of1 (pc2 := 1170) (fun Q => gl_iadd d_law_1169) ?_
  refine SL.chk (fun h242 => ?_)
  refine SL.of1 (pc2 := 1171) (fun Q => gl_sald (gix_in h242) d_law_1170) ?_
  refine SL.of1 (pc2 := 1172) (fun Q => gl_aload_n d_law_1171 rfl) ?_
  refine SL.of1 (pc2 := 1173) (fun Q => gl_iload_n d_law_1172 rfl) ?_
  refine SL.of1 (pc2 := 1174) (fun Q => gl_iconst (v := (2 : Int32)) d_law_1173 (by decide)) ?_
  refine SL.of1 (pc2 := 1175) (fun Q => gl_iadd d_law_1174) ?_
  refine SL.chk (fun h243 => ?_)
  refine SL.of1 (pc2 := 1176) (fun Q => gl_sald (gix_in h243) d_law_1175) ?_
  refine SL.call_wI (pc3 := 1179) rfl (c_T_keep 1000 (by decide) (xs (v3 + (1 : Int32)).toNatClampNeg) (xs (v3 + (2 : Int32)).toNatClampNeg) σ) (fun Q => gl_callV (M2 := m_T_keep) (vs := [.int (xs (v3 + (1 : Int32)).toNatClampNeg), .int (xs (v3 + (2 : Int32)).toNatClampNeg)]) (st := []) lv_RL_154 gk_0 rfl rfl (Nat.le_of_ble_eq_true rfl) (Nat.le_of_ble_eq_true rfl) rfl d_law_1176) (fun q244 => ?_)
  refine SL.of1 (pc2 := 1180) (fun Q => gl_aload_n d_law_1179 rfl) ?_
  refine SL.of1 (pc2 := 1181) (fun Q => gl_aload_n d_law_1180 rfl) ?_
  refine SL.of1 (pc2 := 1182) (fun Q => gl_iload_n d_law_1181 rfl) ?_
  refine SL.of1 (pc2 := 1183) (fun Q => gl_iconst (v := (1 : Int32)) d_law_1182 (by decide)) ?_
  refine SL.of1 (pc2 := 1184) (fun Q => gl_iadd d_law_1183) ?_
  refine SL.chk (fun h245 => ?_)
  refine SL.of1 (pc2 := 1185) (fun Q => gl_sald (gix_in h245) d_law_1184) ?_
  refine SL.of1 (pc2 := 1186) (fun Q => gl_aload_n d_law_1185 rfl) ?_
  refine SL.of1 (pc2 := 1187) (fun Q => gl_iload_n d_law_1186 rfl) ?_
  refine SL.of1 (pc2 := 1188) (fun Q => gl_iconst (v := (2 : Int32)) d_law_1187 (by decide)) ?_
  refine SL.of1 (pc2 := 1189) (fun Q => gl_iadd d_law_1188) ?_
  refine SL.chk (fun h246 => ?_)
  refine SL.of1 (pc2 := 1190) (fun Q => gl_sald (gix_in h246) d_law_1189) ?_
  refine SL.call_wI (pc3 := 1193) rfl (c_M_keep 1000 (by decide) (xs (v3 + (1 : Int32)).toNatClampNeg) (xs (v3 + (2 : Int32)).toNatClampNeg) q244.2) (fun Q => gl_callV (M2 := m_M_keep) (vs := [.int (xs (v3 + (1 : Int32)).toNatClampNeg), .int (xs (v3 + (2 : Int32)).toNatClampNeg)]) (st := [.int q244.1]) lv_RL_157 gk_59 rfl rfl (Nat.le_of_ble_eq_true rfl) (Nat.le_of_ble_eq_true rfl) rfl d_law_1190) (fun q247 => ?_)
  refine SL.br (c := q244.1 = q247.1) (t := 1467) (e := 1196) (fun Q kt kf => gl_icmp_eq d_law_1193 rfl kt kf) (fun h248 => ?_) (fun h248 => ?_)
  · refine SL.of1 (pc2 := 1470) (L2 := [some (.ref 2000), some (.ref 0), some (.ref 59), some (.int (v3 + (6 : Int32)))]) (fun Q => gl_iinc d_law_1467 rfl (congrArg (fun z => v3 + z) (by decide)) (Nat.le_of_ble_eq_true rfl) rfl) ?_
    refine SL.of1 (pc2 := 18) (fun Q => gl_goto d_law_1470 rfl) ?_
    exact SL.wk (L2 := [some (.ref 2000), some (.ref 0), some (.ref 59), some (.int (v3 + (6 : Int32)))]) (And.intro rfl (And.intro rfl (And.intro rfl (And.intro rfl trivial)))) (hk18 (v3 + (6 : Int32)) q247.2)
  · refine SL.of1 (pc2 := 1197) (fun Q => gl_iconst (v := (0 : Int32)) d_law_1196 (by decide)) ?_
    exact SL.ret0
def f_law_j1198 (XL : Nat) (xs : Nat → Int32) (k18 : Int32 → gS → Option Int32) (v3 : Int32) (σ : gS) : Option Int32 :=
  if gix (v3 + (1 : Int32)) XL then if gix (v3 + (2 : Int32)) XL then if gix (v3 + (3 : Int32)) XL then (f_T_row (xs (v3 + (1 : Int32)).toNatClampNeg) (xs (v3 + (2 : Int32)).toNatClampNeg) (xs (v3 + (3 : Int32)).toNatClampNeg) σ).bind fun q253 => if gix (v3 + (1 : Int32)) XL then if gix (v3 + (2 : Int32)) XL then if gix (v3 + (3 : Int32)) XL then (f_M_row (xs (v3 + (1 : Int32)).toNatClampNeg) (xs (v3 + (2 : Int32)).toNatClampNeg) (xs (v3 + (3 : Int32)).toNatClampNeg) q253.2).bind fun q257 => if q253.1 = q257.1 then k18 (v3 + (6 : Int32)) q257.2 else some (0 : Int32) else none else none else none else none else none else none
theorem s_law_j1198 (XL : Nat) (xs : Nat → Int32) (k18 : Int32 → gS → Option Int32) (hk18 : ∀ (v3 : Int32) (τ : gS), SL XL xs 18 [some (.ref 2000), some (.ref 0), some (.ref 59), some (.int v3)] [] τ (k18 v3 τ)) (v3 : Int32) (σ : gS) : SL XL xs 1198 [some (.ref 2000), some (.ref 0), some (.ref 59), some (.int v3)] [] σ (f_law_j1198 XL xs k18 v3 σ) := by
  unfold f_law_j1198
  refine SL.of1 (pc2 := 1199) (fun Q => gl_aload_n d_law_1198 rfl) ?_
  refine SL.of1 (pc2 := 1200) (fun Q => gl_aload_n d_law_1199 rfl) ?_
  refine SL.of1 (pc2 := 1201) (fun Q => gl_iload_n d_law_1200 rfl) ?_
  refine SL.of1 (pc2 := 1202) (fun Q => gl_iconst (v := (1 : Int32)) d_law_1201 (by decide)) ?_
  refine SL.of1 (pc2 := 1203) (fun Q => gl_iadd d_law_1202) ?_
  refine SL.chk (fun h250 => ?_)
  refine SL.of1 (pc2 := 1204) (fun Q => gl_sald (gix_in h250) d_law_1203) ?_
  refine SL.of1 (pc2 := 1205) (fun Q => gl_aload_n d_law_1204 rfl) ?_
  refine SL.of1 (pc2 := 1206) (fun Q => gl_iload_n d_law_1205 rfl) ?_
  refine SL.of1 (pc2 := 1207) (fun Q => gl_iconst (v := (2 : Int32)) d_law_1206 (by decide)) ?_
  refine SL.of1 (pc2 := 1208) (fun Q => gl_iadd d_law_1207) ?_
  refine SL.chk (fun h251 => ?_)
  refine SL.of1 (pc2 := 1209) (fun Q => gl_sald (gix_in h251) d_law_1208) ?_
  refine SL.of1 (pc2 := 1210) (fun Q => gl_aload_n d_law_1209 rfl) ?_
  refine SL.of1 (pc2 := 1211) (fun Q => gl_iload_n d_law_1210 rfl) ?_
  refine SL.of1 (pc2 := 1212) (fun Q => gl_iconst (v := (3 : Int32)) d_law_1211 (by decide)) ?_
  refine SL.of1 (pc2 := 1213) (fun Q => gl_iadd d_law_1212) ?_
  refine SL.chk (fun h252 => ?_)
  refine SL.of1 (pc2 := 1214) (fun Q => gl_sald (gix_in h252) d_law_1213) ?_
  refine SL.call_wI (pc3 := 1217) rfl (c_T_row 1000 (by decide) (xs (v3 + (1 : Int32)).toNatClampNeg) (xs (v3 + (2 : Int32)).toNatClampNeg) (xs (v3 + (3 : Int32)).toNatClampNeg) σ) (fun Q => gl_callV (M2 := m_T_row) (vs := [.int (xs (v3 + (1 : Int32)).toNatClampNeg), .int (xs (v3 + (2 : Int32)).toNatClampNeg), .int (xs (v3 + (3 : Int32)).toNatClampNeg)]) (st := []) lv_RL_158 gk_0 rfl rfl (Nat.le_of_ble_eq_true rfl) (Nat.le_of_ble_eq_true rfl) rfl d_law_1214) (fun q253 => ?_)
  refine SL.of1 (pc2 := 1218) (fun Q => gl_aload_n d_law_1217 rfl) ?_
  refine SL.of1 (pc2 := 1219) (fun Q => gl_aload_n d_law_1218 rfl) ?_
  refine SL.of1 (pc2 := 1220) (fun Q => gl_iload_n d_law_1219 rfl) ?_
  refine SL.of1 (pc2 := 1221) (fun Q => gl_iconst (v := (1 : Int32)) d_law_1220 (by decide)) ?_
  refine SL.of1 (pc2 := 1222) (fun Q => gl_iadd d_law_1221) ?_
  refine SL.chk (fun h254 => ?_)
  refine SL.of1 (pc2 := 1223) (fun Q => gl_sald (gix_in h254) d_law_1222) ?_
  refine SL.of1 (pc2 := 1224) (fun Q => gl_aload_n d_law_1223 rfl) ?_
  refine SL.of1 (pc2 := 1225) (fun Q => gl_iload_n d_law_1224 rfl) ?_
  refine SL.of1 (pc2 := 1226) (fun Q => gl_iconst (v := (2 : Int32)) d_law_1225 (by decide)) ?_
  refine SL.of1 (pc2 := 1227) (fun Q => gl_iadd d_law_1226) ?_
  refine SL.chk (fun h255 => ?_)
  refine SL.of1 (pc2 := 1228) (fun Q => gl_sald (gix_in h255) d_law_1227) ?_
  refine SL.of1 (pc2 := 1229) (fun Q => gl_aload_n d_law_1228 rfl) ?_
  refine SL.of1 (pc2 := 1230) (fun Q => gl_iload_n d_law_1229 rfl) ?_
  refine SL.of1 (pc2 := 1231) (fun Q => gl_iconst (v := (3 : Int32)) d_law_1230 (by decide)) ?_
  refine SL.of1 (pc2 := 1232) (fun Q => gl_iadd d_law_1231) ?_
  refine SL.chk (fun h256 => ?_)
  refine SL.of1 (pc2 := 1233) (fun Q => gl_sald (gix_in h256) d_law_1232) ?_
  refine SL.call_wI (pc3 := 1236) rfl (c_M_row 1000 (by decide) (xs (v3 + (1 : Int32)).toNatClampNeg) (xs (v3 + (2 : Int32)).toNatClampNeg) (xs (v3 + (3 : Int32)).toNatClampNeg) q253.2) (fun Q => gl_callV (M2 := m_M_row) (vs := [.int (xs (v3 + (1 : Int32)).toNatClampNeg), .int (xs (v3 + (2 : Int32)).toNatClampNeg), .int (xs (v3 + (3 : Int32)).toNatClampNeg)]) (st := [.int q253.1]) lv_RL_161 gk_59 rfl rfl (Nat.le_of_ble_eq_true rfl) (Nat.le_of_ble_eq_true rfl) rfl d_law_1233) (fun q257 => ?_)
  refine SL.br (c := q253.1 = q257.1) (t := 1467) (e := 1239) (fun Q kt kf => gl_icmp_eq d_law_1236 rfl kt kf) (fun h258 => ?_) (fun h258 => ?_)
  · refine SL.of1 (pc2 := 1470) (L2 := [some (.ref 2000), some (.ref 0), some (.ref 59), some (.int (v3 + (6 : Int32)))]) (fun Q => gl_iinc d_law_1467 rfl (congrArg (fun z => v3 + z) (by decide)) (Nat.le_of_ble_eq_true rfl) rfl) ?_
    refine SL.of1 (pc2 := 18) (fun Q => gl_goto d_law_1470 rfl) ?_
    exact SL.wk (L2 := [some (.ref 2000), some (.ref 0), some (.ref 59), some (.int (v3 + (6 : Int32)))]) (And.intro rfl (And.intro rfl (And.intro rfl (And.intro rfl trivial)))) (hk18 (v3 + (6 : Int32)) q257.2)
  · refine SL.of1 (pc2 := 1240) (fun Q => gl_iconst (v := (0 : Int32)) d_law_1239 (by decide)) ?_
    exact SL.ret0
def f_law_j1241 (XL : Nat) (xs : Nat → Int32) (k18 : Int32 → gS → Option Int32) (v3 : Int32) (σ : gS) : Option Int32 :=
  if gix (v3 + (1 : Int32)) XL then if gix (v3 + (2 : Int32)) XL then if gix (v3 + (3 : Int32)) XL then if gix (v3 + (4 : Int32)) XL then (f_T_put (xs (v3 + (1 : Int32)).toNatClampNeg) (xs (v3 + (2 : Int32)).toNatClampNeg) ((((xs (v3 + (3 : Int32)).toNatClampNeg).toInt64) <<< ((32 : Int32).toInt64 &&& 63)) ||| (((xs (v3 + (4 : Int32)).toNatClampNeg).toInt64) &&& (4294967295 : Int64))) σ).bind fun q264 => if gix (v3 + (1 : Int32)) XL then if gix (v3 + (2 : Int32)) XL then if gix (v3 + (3 : Int32)) XL then if gix (v3 + (4 : Int32)) XL then (f_M_put (xs (v3 + (1 : Int32)).toNatClampNeg) (xs (v3 + (2 : Int32)).toNatClampNeg) ((((xs (v3 + (3 : Int32)).toNatClampNeg).toInt64) <<< ((32 : Int32).toInt64 &&& 63)) ||| (((xs (v3 + (4 : Int32)).toNatClampNeg).toInt64) &&& (4294967295 : Int64))) q264.2).bind fun q269 => if q264.1 = q269.1 then k18 (v3 + (6 : Int32)) q269.2 else some (0 : Int32) else none else none else none else none else none else none else none else none
theorem s_law_j1241 (XL : Nat) (xs : Nat → Int32) (k18 : Int32 → gS → Option Int32) (hk18 : ∀ (v3 : Int32) (τ : gS), SL XL xs 18 [some (.ref 2000), some (.ref 0), some (.ref 59), some (.int v3)] [] τ (k18 v3 τ)) (v3 : Int32) (σ : gS) : SL XL xs 1241 [some (.ref 2000), some (.ref 0), some (.ref 59), some (.int v3)] [] σ (f_law_j1241 XL xs k18 v3 σ) := by
  unfold f_law_j1241
  refine SL.of1 (pc2 := 1242) (fun Q => gl_aload_n d_law_1241 rfl) ?_
  refine SL.of1 (pc2 := 1243) (fun Q => gl_aload_n d_law_1242 rfl) ?_
  refine SL.of1 (pc2 := 1244) (fun Q => gl_iload_n d_law_1243 rfl) ?_
  refine SL.of1 (pc2 := 1245) (fun Q => gl_iconst (v := (1 : Int32)) d_law_1244 (by decide)) ?_
  refine SL.of1 (pc2 := 1246) (fun Q => gl_iadd d_law_1245) ?_
  refine SL.chk (fun h260 => ?_)
  refine SL.of1 (pc2 := 1247) (fun Q => gl_sald (gix_in h260) d_law_1246) ?_
  refine SL.of1 (pc2 := 1248) (fun Q => gl_aload_n d_law_1247 rfl) ?_
  refine SL.of1 (pc2 := 1249) (fun Q => gl_iload_n d_law_1248 rfl) ?_
  refine SL.of1 (pc2 := 1250) (fun Q => gl_iconst (v := (2 : Int32)) d_law_1249 (by decide)) ?_
  refine SL.of1 (pc2 := 1251) (fun Q => gl_iadd d_law_1250) ?_
  refine SL.chk (fun h261 => ?_)
  refine SL.of1 (pc2 := 1252) (fun Q => gl_sald (gix_in h261) d_law_1251) ?_
  refine SL.of1 (pc2 := 1253) (fun Q => gl_aload_n d_law_1252 rfl) ?_
  refine SL.of1 (pc2 := 1254) (fun Q => gl_iload_n d_law_1253 rfl) ?_
  refine SL.of1 (pc2 := 1255) (fun Q => gl_iconst (v := (3 : Int32)) d_law_1254 (by decide)) ?_
  refine SL.of1 (pc2 := 1256) (fun Q => gl_iadd d_law_1255) ?_
  refine SL.chk (fun h262 => ?_)
  refine SL.of1 (pc2 := 1257) (fun Q => gl_sald (gix_in h262) d_law_1256) ?_
  refine SL.of1 (pc2 := 1258) (fun Q => gl_i2l d_law_1257) ?_
  refine SL.of1 (pc2 := 1260) (fun Q => gl_bipush (v := (32 : Int32)) d_law_1258 (by decide)) ?_
  refine SL.of1 (pc2 := 1261) (fun Q => gl_lshl d_law_1260) ?_
  refine SL.of1 (pc2 := 1262) (fun Q => gl_aload_n d_law_1261 rfl) ?_
  refine SL.of1 (pc2 := 1263) (fun Q => gl_iload_n d_law_1262 rfl) ?_
  refine SL.of1 (pc2 := 1264) (fun Q => gl_iconst (v := (4 : Int32)) d_law_1263 (by decide)) ?_
  refine SL.of1 (pc2 := 1265) (fun Q => gl_iadd d_law_1264) ?_
  refine SL.chk (fun h263 => ?_)
  refine SL.of1 (pc2 := 1266) (fun Q => gl_sald (gix_in h263) d_law_1265) ?_
  refine SL.of1 (pc2 := 1267) (fun Q => gl_i2l d_law_1266) ?_
  refine SL.of1 (pc2 := 1270) (fun Q => gl_ldc2 (v := (4294967295 : Int64)) d_law_1267 w_1641) ?_
  refine SL.of1 (pc2 := 1271) (fun Q => gl_land d_law_1270) ?_
  refine SL.of1 (pc2 := 1272) (fun Q => gl_lor d_law_1271) ?_
  refine SL.call_wI (pc3 := 1275) rfl (c_T_put 1000 (by decide) (xs (v3 + (1 : Int32)).toNatClampNeg) (xs (v3 + (2 : Int32)).toNatClampNeg) ((((xs (v3 + (3 : Int32)).toNatClampNeg).toInt64) <<< ((32 : Int32).toInt64 &&& 63)) ||| (((xs (v3 + (4 : Int32)).toNatClampNeg).toInt64) &&& (4294967295 : Int64))) σ) (fun Q => gl_callV (M2 := m_T_put) (vs := [.int (xs (v3 + (1 : Int32)).toNatClampNeg), .int (xs (v3 + (2 : Int32)).toNatClampNeg), .long ((((xs (v3 + (3 : Int32)).toNatClampNeg).toInt64) <<< ((32 : Int32).toInt64 &&& 63)) ||| (((xs (v3 + (4 : Int32)).toNatClampNeg).toInt64) &&& (4294967295 : Int64)))]) (st := []) lv_RL_164 gk_0 rfl rfl (Nat.le_of_ble_eq_true rfl) (Nat.le_of_ble_eq_true rfl) rfl d_law_1272) (fun q264 => ?_)
  refine SL.of1 (pc2 := 1276) (fun Q => gl_aload_n d_law_1275 rfl) ?_
  refine SL.of1 (pc2 := 1277) (fun Q => gl_aload_n d_law_1276 rfl) ?_
  refine SL.of1 (pc2 := 1278) (fun Q => gl_iload_n d_law_1277 rfl) ?_
  refine SL.of1 (pc2 := 1279) (fun Q => gl_iconst (v := (1 : Int32)) d_law_1278 (by decide)) ?_
  refine SL.of1 (pc2 := 1280) (fun Q => gl_iadd d_law_1279) ?_
  refine SL.chk (fun h265 => ?_)
  refine SL.of1 (pc2 := 1281) (fun Q => gl_sald (gix_in h265) d_law_1280) ?_
  refine SL.of1 (pc2 := 1282) (fun Q => gl_aload_n d_law_1281 rfl) ?_
  refine SL.of1 (pc2 := 1283) (fun Q => gl_iload_n d_law_1282 rfl) ?_
  refine SL.of1 (pc2 := 1284) (fun Q => gl_iconst (v := (2 : Int32)) d_law_1283 (by decide)) ?_
  refine SL.of1 (pc2 := 1285) (fun Q => gl_iadd d_law_1284) ?_
  refine SL.chk (fun h266 => ?_)
  refine SL.of1 (pc2 := 1286) (fun Q => gl_sald (gix_in h266) d_law_1285) ?_
  refine SL.of1 (pc2 := 1287) (fun Q => gl_aload_n d_law_1286 rfl) ?_
  refine SL.of1 (pc2 := 1288) (fun Q => gl_iload_n d_law_1287 rfl) ?_
  refine SL.of1 (pc2 := 1289) (fun Q => gl_iconst (v := (3 : Int32)) d_law_1288 (by decide)) ?_
  refine SL.of1 (pc2 := 1290) (fun Q => gl_iadd d_law_1289) ?_
  refine SL.chk (fun h267 => ?_)
  refine SL.of1 (pc2 := 1291) (fun Q => gl_sald (gix_in h267) d_law_1290) ?_
  refine SL.of1 (pc2 := 1292) (fun Q => gl_i2l d_law_1291) ?_
  refine SL.of1 (pc2 := 1294) (fun Q => gl_bipush (v := (32 : Int32)) d_law_1292 (by decide)) ?_
  refine SL.of1 (pc2 := 1295) (fun Q => gl_lshl d_law_1294) ?_
  refine SL.of1 (pc2 := 1296) (fun Q => gl_aload_n d_law_1295 rfl) ?_
  refine SL.of1 (pc2 := 1297) (fun Q => gl_iload_n d_law_1296 rfl) ?_
  refine SL.of1 (pc2 := 1298) (fun Q => gl_iconst (v := (4 : Int32)) d_law_1297 (by decide)) ?_
  refine SL.of1 (pc2 := 1299) (fun Q => gl_iadd d_law_1298) ?_
  refine SL.chk (fun h268 => ?_)
  refine SL.of1 (pc2 := 1300) (fun Q => gl_sald (gix_in h268) d_law_1299) ?_
  refine SL.of1 (pc2 := 1301) (fun Q => gl_i2l d_law_1300) ?_
  refine SL.of1 (pc2 := 1304) (fun Q => gl_ldc2 (v := (4294967295 : Int64)) d_law_1301 w_1641) ?_
  refine SL.of1 (pc2 := 1305) (fun Q => gl_land d_law_1304) ?_
  refine SL.of1 (pc2 := 1306) (fun Q => gl_lor d_law_1305) ?_
  refine SL.call_wI (pc3 := 1309) rfl (c_M_put 1000 (by decide) (xs (v3 + (1 : Int32)).toNatClampNeg) (xs (v3 + (2 : Int32)).toNatClampNeg) ((((xs (v3 + (3 : Int32)).toNatClampNeg).toInt64) <<< ((32 : Int32).toInt64 &&& 63)) ||| (((xs (v3 + (4 : Int32)).toNatClampNeg).toInt64) &&& (4294967295 : Int64))) q264.2) (fun Q => gl_callV (M2 := m_M_put) (vs := [.int (xs (v3 + (1 : Int32)).toNatClampNeg), .int (xs (v3 + (2 : Int32)).toNatClampNeg), .long ((((xs (v3 + (3 : Int32)).toNatClampNeg).toInt64) <<< ((32 : Int32).toInt64 &&& 63)) ||| (((xs (v3 + (4 : Int32)).toNatClampNeg).toInt64) &&& (4294967295 : Int64)))]) (st := [.int q264.1]) lv_RL_168 gk_59 rfl rfl (Nat.le_of_ble_eq_true rfl) (Nat.le_of_ble_eq_true rfl) rfl d_law_1306) (fun q269 => ?_)
  refine SL.br (c := q264.1 = q269.1) (t := 1467) (e := 1312) (fun Q kt kf => gl_icmp_eq d_law_1309 rfl kt kf) (fun h270 => ?_) (fun h270 => ?_)
  · refine SL.of1 (pc2 := 1470) (L2 := [some (.ref 2000), some (.ref 0), some (.ref 59), some (.int (v3 + (6 : Int32)))]) (fun Q => gl_iinc d_law_1467 rfl (congrArg (fun z => v3 + z) (by decide)) (Nat.le_of_ble_eq_true rfl) rfl) ?_
    refine SL.of1 (pc2 := 18) (fun Q => gl_goto d_law_1470 rfl) ?_
    exact SL.wk (L2 := [some (.ref 2000), some (.ref 0), some (.ref 59), some (.int (v3 + (6 : Int32)))]) (And.intro rfl (And.intro rfl (And.intro rfl (And.intro rfl trivial)))) (hk18 (v3 + (6 : Int32)) q269.2)
  · refine SL.of1 (pc2 := 1313) (fun Q => gl_iconst (v := (0 : Int32)) d_law_1312 (by decide)) ?_
    exact SL.ret0
def f_law_j1314 (XL : Nat) (xs : Nat → Int32) (k18 : Int32 → gS → Option Int32) (v3 : Int32) (σ : gS) : Option Int32 :=
  if gix (v3 + (1 : Int32)) XL then if gix (v3 + (2 : Int32)) XL then (f_T_element (xs (v3 + (1 : Int32)).toNatClampNeg) (xs (v3 + (2 : Int32)).toNatClampNeg) σ).bind fun q274 => if gix (v3 + (1 : Int32)) XL then if gix (v3 + (2 : Int32)) XL then (f_M_element (xs (v3 + (1 : Int32)).toNatClampNeg) (xs (v3 + (2 : Int32)).toNatClampNeg) σ).bind fun q277 => if (lg_cmp q274 q277) = 0 then k18 (v3 + (6 : Int32)) σ else some (0 : Int32) else none else none else none else none
theorem s_law_j1314 (XL : Nat) (xs : Nat → Int32) (k18 : Int32 → gS → Option Int32) (hk18 : ∀ (v3 : Int32) (τ : gS), SL XL xs 18 [some (.ref 2000), some (.ref 0), some (.ref 59), some (.int v3)] [] τ (k18 v3 τ)) (v3 : Int32) (σ : gS) : SL XL xs 1314 [some (.ref 2000), some (.ref 0), some (.ref 59), some (.int v3)] [] σ (f_law_j1314 XL xs k18 v3 σ) := by
  unfold f_law_j1314
  refine SL.of1 (pc2 := 1315) (fun Q => gl_aload_n d_law_1314 rfl) ?_
  refine SL.of1 (pc2 := 1316) (fun Q => gl_aload_n d_law_1315 rfl) ?_
  refine SL.of1 (pc2 := 1317) (fun Q => gl_iload_n d_law_1316 rfl) ?_
  refine SL.of1 (pc2 := 1318) (fun Q => gl_iconst (v := (1 : Int32)) d_law_1317 (by decide)) ?_
  refine SL.of1 (pc2 := 1319) (fun Q => gl_iadd d_law_1318) ?_
  refine SL.chk (fun h272 => ?_)
  refine SL.of1 (pc2 := 1320) (fun Q => gl_sald (gix_in h272) d_law_1319) ?_
  refine SL.of1 (pc2 := 1321) (fun Q => gl_aload_n d_law_1320 rfl) ?_
  refine SL.of1 (pc2 := 1322) (fun Q => gl_iload_n d_law_1321 rfl) ?_
  refine SL.of1 (pc2 := 1323) (fun Q => gl_iconst (v := (2 : Int32)) d_law_1322 (by decide)) ?_
  refine SL.of1 (pc2 := 1324) (fun Q => gl_iadd d_law_1323) ?_
  refine SL.chk (fun h273 => ?_)
  refine SL.of1 (pc2 := 1325) (fun Q => gl_sald (gix_in h273) d_law_1324) ?_
  refine SL.call_rJ (pc3 := 1328) rfl (c_T_element 1000 (by decide) (xs (v3 + (1 : Int32)).toNatClampNeg) (xs (v3 + (2 : Int32)).toNatClampNeg) σ) (fun Q => gl_callV (M2 := m_T_element) (vs := [.int (xs (v3 + (1 : Int32)).toNatClampNeg), .int (xs (v3 + (2 : Int32)).toNatClampNeg)]) (st := []) lv_RL_169 gk_0 rfl rfl (Nat.le_of_ble_eq_true rfl) (Nat.le_of_ble_eq_true rfl) rfl d_law_1325) (fun q274 => ?_)
  refine SL.of1 (pc2 := 1329) (fun Q => gl_aload_n d_law_1328 rfl) ?_
  refine SL.of1 (pc2 := 1330) (fun Q => gl_aload_n d_law_1329 rfl) ?_
  refine SL.of1 (pc2 := 1331) (fun Q => gl_iload_n d_law_1330 rfl) ?_
  refine SL.of1 (pc2 := 1332) (fun Q => gl_iconst (v := (1 : Int32)) d_law_1331 (by decide)) ?_
  refine SL.of1 (pc2 := 1333) (fun Q => gl_iadd d_law_1332) ?_
  refine SL.chk (fun h275 => ?_)
  refine SL.of1 (pc2 := 1334) (fun Q => gl_sald (gix_in h275) d_law_1333) ?_
  refine SL.of1 (pc2 := 1335) (fun Q => gl_aload_n d_law_1334 rfl) ?_
  refine SL.of1 (pc2 := 1336) (fun Q => gl_iload_n d_law_1335 rfl) ?_
  refine SL.of1 (pc2 := 1337) (fun Q => gl_iconst (v := (2 : Int32)) d_law_1336 (by decide)) ?_
  refine SL.of1 (pc2 := 1338) (fun Q => gl_iadd d_law_1337) ?_
  refine SL.chk (fun h276 => ?_)
  refine SL.of1 (pc2 := 1339) (fun Q => gl_sald (gix_in h276) d_law_1338) ?_
  refine SL.call_rJ (pc3 := 1342) rfl (c_M_element 1000 (by decide) (xs (v3 + (1 : Int32)).toNatClampNeg) (xs (v3 + (2 : Int32)).toNatClampNeg) σ) (fun Q => gl_callV (M2 := m_M_element) (vs := [.int (xs (v3 + (1 : Int32)).toNatClampNeg), .int (xs (v3 + (2 : Int32)).toNatClampNeg)]) (st := [.long q274]) lv_RL_173 gk_59 rfl rfl (Nat.le_of_ble_eq_true rfl) (Nat.le_of_ble_eq_true rfl) rfl d_law_1339) (fun q277 => ?_)
  refine SL.of1 (pc2 := 1343) (fun Q => gl_lcmp d_law_1342) ?_
  refine SL.br (c := (lg_cmp q274 q277) = 0) (t := 1467) (e := 1346) (fun Q kt kf => gl_if_eq d_law_1343 rfl kt kf) (fun h278 => ?_) (fun h278 => ?_)
  · refine SL.of1 (pc2 := 1470) (L2 := [some (.ref 2000), some (.ref 0), some (.ref 59), some (.int (v3 + (6 : Int32)))]) (fun Q => gl_iinc d_law_1467 rfl (congrArg (fun z => v3 + z) (by decide)) (Nat.le_of_ble_eq_true rfl) rfl) ?_
    refine SL.of1 (pc2 := 18) (fun Q => gl_goto d_law_1470 rfl) ?_
    exact SL.wk (L2 := [some (.ref 2000), some (.ref 0), some (.ref 59), some (.int (v3 + (6 : Int32)))]) (And.intro rfl (And.intro rfl (And.intro rfl (And.intro rfl trivial)))) (hk18 (v3 + (6 : Int32)) σ)
  · refine SL.of1 (pc2 := 1347) (fun Q => gl_iconst (v := (0 : Int32)) d_law_1346 (by decide)) ?_
    exact SL.ret0
def f_law_j1348 (XL : Nat) (xs : Nat → Int32) (k18 : Int32 → gS → Option Int32) (v3 : Int32) (σ : gS) : Option Int32 :=
  if gix (v3 + (1 : Int32)) XL then if gix (v3 + (2 : Int32)) XL then if gix (v3 + (3 : Int32)) XL then if gix (v3 + (4 : Int32)) XL then if gix (v3 + (5 : Int32)) XL then (f_T_shift (xs (v3 + (1 : Int32)).toNatClampNeg) (xs (v3 + (2 : Int32)).toNatClampNeg) (xs (v3 + (3 : Int32)).toNatClampNeg) (xs (v3 + (4 : Int32)).toNatClampNeg) (xs (v3 + (5 : Int32)).toNatClampNeg) σ).bind fun q285 => if gix (v3 + (1 : Int32)) XL then if gix (v3 + (2 : Int32)) XL then if gix (v3 + (3 : Int32)) XL then if gix (v3 + (4 : Int32)) XL then if gix (v3 + (5 : Int32)) XL then (f_M_shift (xs (v3 + (1 : Int32)).toNatClampNeg) (xs (v3 + (2 : Int32)).toNatClampNeg) (xs (v3 + (3 : Int32)).toNatClampNeg) (xs (v3 + (4 : Int32)).toNatClampNeg) (xs (v3 + (5 : Int32)).toNatClampNeg) q285.2).bind fun q291 => if q285.1 = q291.1 then k18 (v3 + (6 : Int32)) q291.2 else some (0 : Int32) else none else none else none else none else none else none else none else none else none else none
theorem s_law_j1348 (XL : Nat) (xs : Nat → Int32) (k18 : Int32 → gS → Option Int32) (hk18 : ∀ (v3 : Int32) (τ : gS), SL XL xs 18 [some (.ref 2000), some (.ref 0), some (.ref 59), some (.int v3)] [] τ (k18 v3 τ)) (v3 : Int32) (σ : gS) : SL XL xs 1348 [some (.ref 2000), some (.ref 0), some (.ref 59), some (.int v3)] [] σ (f_law_j1348 XL xs k18 v3 σ) := by
  unfold f_law_j1348
  refine SL.of1 (pc2 := 1349) (fun Q => gl_aload_n d_law_1348 rfl) ?_
  refine SL.of1 (pc2 := 1350) (fun Q => gl_aload_n d_law_1349 rfl) ?_
  refine SL.of1 (pc2 := 1351) (fun Q => gl_iload_n d_law_1350 rfl) ?_
  refine SL.of1 (pc2 := 1352) (fun Q => gl_iconst (v := (1 : Int32)) d_law_1351 (by decide)) ?_
  refine SL.of1 (pc2 := 1353) (fun Q => gl_iadd d_law_1352) ?_
  refine SL.chk (fun h280 => ?_)
  refine SL.of1 (pc2 := 1354) (fun Q => gl_sald (gix_in h280) d_law_1353) ?_
  refine SL.of1 (pc2 := 1355) (fun Q => gl_aload_n d_law_1354 rfl) ?_
  refine SL.of1 (pc2 := 1356) (fun Q => gl_iload_n d_law_1355 rfl) ?_
  refine SL.of1 (pc2 := 1357) (fun Q => gl_iconst (v := (2 : Int32)) d_law_1356 (by decide)) ?_
  refine SL.of1 (pc2 := 1358) (fun Q => gl_iadd d_law_1357) ?_
  refine SL.chk (fun h281 => ?_)
  refine SL.of1 (pc2 := 1359) (fun Q => gl_sald (gix_in h281) d_law_1358) ?_
  refine SL.of1 (pc2 := 1360) (fun Q => gl_aload_n d_law_1359 rfl) ?_
  refine SL.of1 (pc2 := 1361) (fun Q => gl_iload_n d_law_1360 rfl) ?_
  refine SL.of1 (pc2 := 1362) (fun Q => gl_iconst (v := (3 : Int32)) d_law_1361 (by decide)) ?_
  refine SL.of1 (pc2 := 1363) (fun Q => gl_iadd d_law_1362) ?_
  refine SL.chk (fun h282 => ?_)
  refine SL.of1 (pc2 := 1364) (fun Q => gl_sald (gix_in h282) d_law_1363) ?_
  refine SL.of1 (pc2 := 1365) (fun Q => gl_aload_n d_law_1364 rfl) ?_
  refine SL.of1 (pc2 := 1366) (fun Q => gl_iload_n d_law_1365 rfl) ?_
  refine SL.of1 (pc2 := 1367) (fun Q => gl_iconst (v := (4 : Int32)) d_law_1366 (by decide)) ?_
  refine SL.of1 (pc2 := 1368) (fun Q => gl_iadd d_law_1367) ?_
  refine SL.chk (fun h283 => ?_)
  refine SL.of1 (pc2 := 1369) (fun Q => gl_sald (gix_in h283) d_law_1368) ?_
  refine SL.of1 (pc2 := 1370) (fun Q => gl_aload_n d_law_1369 rfl) ?_
  refine SL.of1 (pc2 := 1371) (fun Q => gl_iload_n d_law_1370 rfl) ?_
  refine SL.of1 (pc2 := 1372) (fun Q => gl_iconst (v := (5 : Int32)) d_law_1371 (by decide)) ?_
  refine SL.of1 (pc2 := 1373) (fun Q => gl_iadd d_law_1372) ?_
  refine SL.chk (fun h284 => ?_)
  refine SL.of1 (pc2 := 1374) (fun Q => gl_sald (gix_in h284) d_law_1373) ?_
  refine SL.call_wI (pc3 := 1377) rfl (c_T_shift 1000 (by decide) (xs (v3 + (1 : Int32)).toNatClampNeg) (xs (v3 + (2 : Int32)).toNatClampNeg) (xs (v3 + (3 : Int32)).toNatClampNeg) (xs (v3 + (4 : Int32)).toNatClampNeg) (xs (v3 + (5 : Int32)).toNatClampNeg) σ) (fun Q => gl_callV (M2 := m_T_shift) (vs := [.int (xs (v3 + (1 : Int32)).toNatClampNeg), .int (xs (v3 + (2 : Int32)).toNatClampNeg), .int (xs (v3 + (3 : Int32)).toNatClampNeg), .int (xs (v3 + (4 : Int32)).toNatClampNeg), .int (xs (v3 + (5 : Int32)).toNatClampNeg)]) (st := []) lv_RL_174 gk_0 rfl rfl (Nat.le_of_ble_eq_true rfl) (Nat.le_of_ble_eq_true rfl) rfl d_law_1374) (fun q285 => ?_)
  refine SL.of1 (pc2 := 1378) (fun Q => gl_aload_n d_law_1377 rfl) ?_
  refine SL.of1 (pc2 := 1379) (fun Q => gl_aload_n d_law_1378 rfl) ?_
  refine SL.of1 (pc2 := 1380) (fun Q => gl_iload_n d_law_1379 rfl) ?_
  refine SL.of1 (pc2 := 1381) (fun Q => gl_iconst (v := (1 : Int32)) d_law_1380 (by decide)) ?_
  refine SL.of1 (pc2 := 1382) (fun Q => gl_iadd d_law_1381) ?_
  refine SL.chk (fun h286 => ?_)
  refine SL.of1 (pc2 := 1383) (fun Q => gl_sald (gix_in h286) d_law_1382) ?_
  refine SL.of1 (pc2 := 1384) (fun Q => gl_aload_n d_law_1383 rfl) ?_
  refine SL.of1 (pc2 := 1385) (fun Q => gl_iload_n d_law_1384 rfl) ?_
  refine SL.of1 (pc2 := 1386) (fun Q => gl_iconst (v := (2 : Int32)) d_law_1385 (by decide)) ?_
  refine SL.of1 (pc2 := 1387) (fun Q => gl_iadd d_law_1386) ?_
  refine SL.chk (fun h287 => ?_)
  refine SL.of1 (pc2 := 1388) (fun Q => gl_sald (gix_in h287) d_law_1387) ?_
  refine SL.of1 (pc2 := 1389) (fun Q => gl_aload_n d_law_1388 rfl) ?_
  refine SL.of1 (pc2 := 1390) (fun Q => gl_iload_n d_law_1389 rfl) ?_
  refine SL.of1 (pc2 := 1391) (fun Q => gl_iconst (v := (3 : Int32)) d_law_1390 (by decide)) ?_
  refine SL.of1 (pc2 := 1392) (fun Q => gl_iadd d_law_1391) ?_
  refine SL.chk (fun h288 => ?_)
  refine SL.of1 (pc2 := 1393) (fun Q => gl_sald (gix_in h288) d_law_1392) ?_
  refine SL.of1 (pc2 := 1394) (fun Q => gl_aload_n d_law_1393 rfl) ?_
  refine SL.of1 (pc2 := 1395) (fun Q => gl_iload_n d_law_1394 rfl) ?_
  refine SL.of1 (pc2 := 1396) (fun Q => gl_iconst (v := (4 : Int32)) d_law_1395 (by decide)) ?_
  refine SL.of1 (pc2 := 1397) (fun Q => gl_iadd d_law_1396) ?_
  refine SL.chk (fun h289 => ?_)
  refine SL.of1 (pc2 := 1398) (fun Q => gl_sald (gix_in h289) d_law_1397) ?_
  refine SL.of1 (pc2 := 1399) (fun Q => gl_aload_n d_law_1398 rfl) ?_
  refine SL.of1 (pc2 := 1400) (fun Q => gl_iload_n d_law_1399 rfl) ?_
  refine SL.of1 (pc2 := 1401) (fun Q => gl_iconst (v := (5 : Int32)) d_law_1400 (by decide)) ?_
  refine SL.of1 (pc2 := 1402) (fun Q => gl_iadd d_law_1401) ?_
  refine SL.chk (fun h290 => ?_)
  refine SL.of1 (pc2 := 1403) (fun Q => gl_sald (gix_in h290) d_law_1402) ?_
  refine SL.call_wI (pc3 := 1406) rfl (c_M_shift 1000 (by decide) (xs (v3 + (1 : Int32)).toNatClampNeg) (xs (v3 + (2 : Int32)).toNatClampNeg) (xs (v3 + (3 : Int32)).toNatClampNeg) (xs (v3 + (4 : Int32)).toNatClampNeg) (xs (v3 + (5 : Int32)).toNatClampNeg) q285.2) (fun Q => gl_callV (M2 := m_M_shift) (vs := [.int (xs (v3 + (1 : Int32)).toNatClampNeg), .int (xs (v3 + (2 : Int32)).toNatClampNeg), .int (xs (v3 + (3 : Int32)).toNatClampNeg), .int (xs (v3 + (4 : Int32)).toNatClampNeg), .int (xs (v3 + (5 : Int32)).toNatClampNeg)]) (st := [.int q285.1]) lv_RL_178 gk_59 rfl rfl (Nat.le_of_ble_eq_true rfl) (Nat.le_of_ble_eq_true rfl) rfl d_law_1403) (fun q291 => ?_)
  refine SL.br (c := q285.1 = q291.1) (t := 1467) (e := 1409) (fun Q kt kf => gl_icmp_eq d_law_1406 rfl kt kf) (fun h292 => ?_) (fun h292 => ?_)
  · refine SL.of1 (pc2 := 1470) (L2 := [some (.ref 2000), some (.ref 0), some (.ref 59), some (.int (v3 + (6 : Int32)))]) (fun Q => gl_iinc d_law_1467 rfl (congrArg (fun z => v3 + z) (by decide)) (Nat.le_of_ble_eq_true rfl) rfl) ?_
    refine SL.of1 (pc2 := 18) (fun Q => gl_goto d_law_1470 rfl) ?_
    exact SL.wk (L2 := [some (.ref 2000), some (.ref 0), some (.ref 59), some (.int (v3 + (6 : Int32)))]) (And.intro rfl (And.intro rfl (And.intro rfl (And.intro rfl trivial)))) (hk18 (v3 + (6 : Int32)) q291.2)
  · refine SL.of1 (pc2 := 1410) (fun Q => gl_iconst (v := (0 : Int32)) d_law_1409 (by decide)) ?_
    exact SL.ret0
def f_law_j1411 (XL : Nat) (xs : Nat → Int32) (k18 : Int32 → gS → Option Int32) (v3 : Int32) (σ : gS) : Option Int32 :=
  if gix (v3 + (1 : Int32)) XL then if gix (v3 + (2 : Int32)) XL then (f_T_taken (xs (v3 + (1 : Int32)).toNatClampNeg) (xs (v3 + (2 : Int32)).toNatClampNeg) σ).bind fun q296 => if gix (v3 + (1 : Int32)) XL then if gix (v3 + (2 : Int32)) XL then (f_M_taken (xs (v3 + (1 : Int32)).toNatClampNeg) (xs (v3 + (2 : Int32)).toNatClampNeg) σ).bind fun q299 => if q296 = q299 then k18 (v3 + (6 : Int32)) σ else some (0 : Int32) else none else none else none else none
theorem s_law_j1411 (XL : Nat) (xs : Nat → Int32) (k18 : Int32 → gS → Option Int32) (hk18 : ∀ (v3 : Int32) (τ : gS), SL XL xs 18 [some (.ref 2000), some (.ref 0), some (.ref 59), some (.int v3)] [] τ (k18 v3 τ)) (v3 : Int32) (σ : gS) : SL XL xs 1411 [some (.ref 2000), some (.ref 0), some (.ref 59), some (.int v3)] [] σ (f_law_j1411 XL xs k18 v3 σ) := by
  unfold f_law_j1411
  refine SL.of1 (pc2 := 1412) (fun Q => gl_aload_n d_law_1411 rfl) ?_
  refine SL.of1 (pc2 := 1413) (fun Q => gl_aload_n d_law_1412 rfl) ?_
  refine SL.of1 (pc2 := 1414) (fun Q => gl_iload_n d_law_1413 rfl) ?_
  refine SL.of1 (pc2 := 1415) (fun Q => gl_iconst (v := (1 : Int32)) d_law_1414 (by decide)) ?_
  refine SL.of1 (pc2 := 1416) (fun Q => gl_iadd d_law_1415) ?_
  refine SL.chk (fun h294 => ?_)
  refine SL.of1 (pc2 := 1417) (fun Q => gl_sald (gix_in h294) d_law_1416) ?_
  refine SL.of1 (pc2 := 1418) (fun Q => gl_aload_n d_law_1417 rfl) ?_
  refine SL.of1 (pc2 := 1419) (fun Q => gl_iload_n d_law_1418 rfl) ?_
  refine SL.of1 (pc2 := 1420) (fun Q => gl_iconst (v := (2 : Int32)) d_law_1419 (by decide)) ?_
  refine SL.of1 (pc2 := 1421) (fun Q => gl_iadd d_law_1420) ?_
  refine SL.chk (fun h295 => ?_)
  refine SL.of1 (pc2 := 1422) (fun Q => gl_sald (gix_in h295) d_law_1421) ?_
  refine SL.call_rI (pc3 := 1425) rfl (c_T_taken 1000 (by decide) (xs (v3 + (1 : Int32)).toNatClampNeg) (xs (v3 + (2 : Int32)).toNatClampNeg) σ) (fun Q => gl_callV (M2 := m_T_taken) (vs := [.int (xs (v3 + (1 : Int32)).toNatClampNeg), .int (xs (v3 + (2 : Int32)).toNatClampNeg)]) (st := []) lv_RL_179 gk_0 rfl rfl (Nat.le_of_ble_eq_true rfl) (Nat.le_of_ble_eq_true rfl) rfl d_law_1422) (fun q296 => ?_)
  refine SL.of1 (pc2 := 1426) (fun Q => gl_aload_n d_law_1425 rfl) ?_
  refine SL.of1 (pc2 := 1427) (fun Q => gl_aload_n d_law_1426 rfl) ?_
  refine SL.of1 (pc2 := 1428) (fun Q => gl_iload_n d_law_1427 rfl) ?_
  refine SL.of1 (pc2 := 1429) (fun Q => gl_iconst (v := (1 : Int32)) d_law_1428 (by decide)) ?_
  refine SL.of1 (pc2 := 1430) (fun Q => gl_iadd d_law_1429) ?_
  refine SL.chk (fun h297 => ?_)
  refine SL.of1 (pc2 := 1431) (fun Q => gl_sald (gix_in h297) d_law_1430) ?_
  refine SL.of1 (pc2 := 1432) (fun Q => gl_aload_n d_law_1431 rfl) ?_
  refine SL.of1 (pc2 := 1433) (fun Q => gl_iload_n d_law_1432 rfl) ?_
  refine SL.of1 (pc2 := 1434) (fun Q => gl_iconst (v := (2 : Int32)) d_law_1433 (by decide)) ?_
  refine SL.of1 (pc2 := 1435) (fun Q => gl_iadd d_law_1434) ?_
  refine SL.chk (fun h298 => ?_)
  refine SL.of1 (pc2 := 1436) (fun Q => gl_sald (gix_in h298) d_law_1435) ?_
  refine SL.call_rI (pc3 := 1439) rfl (c_M_taken 1000 (by decide) (xs (v3 + (1 : Int32)).toNatClampNeg) (xs (v3 + (2 : Int32)).toNatClampNeg) σ) (fun Q => gl_callV (M2 := m_M_taken) (vs := [.int (xs (v3 + (1 : Int32)).toNatClampNeg), .int (xs (v3 + (2 : Int32)).toNatClampNeg)]) (st := [.int q296]) lv_RL_182 gk_59 rfl rfl (Nat.le_of_ble_eq_true rfl) (Nat.le_of_ble_eq_true rfl) rfl d_law_1436) (fun q299 => ?_)
  refine SL.br (c := q296 = q299) (t := 1467) (e := 1442) (fun Q kt kf => gl_icmp_eq d_law_1439 rfl kt kf) (fun h300 => ?_) (fun h300 => ?_)
  · refine SL.of1 (pc2 := 1470) (L2 := [some (.ref 2000), some (.ref 0), some (.ref 59), some (.int (v3 + (6 : Int32)))]) (fun Q => gl_iinc d_law_1467 rfl (congrArg (fun z => v3 + z) (by decide)) (Nat.le_of_ble_eq_true rfl) rfl) ?_
    refine SL.of1 (pc2 := 18) (fun Q => gl_goto d_law_1470 rfl) ?_
    exact SL.wk (L2 := [some (.ref 2000), some (.ref 0), some (.ref 59), some (.int (v3 + (6 : Int32)))]) (And.intro rfl (And.intro rfl (And.intro rfl (And.intro rfl trivial)))) (hk18 (v3 + (6 : Int32)) σ)
  · refine SL.of1 (pc2 := 1443) (fun Q => gl_iconst (v := (0 : Int32)) d_law_1442 (by decide)) ?_
    exact SL.ret0
def f_law_j1444 (XL : Nat) (xs : Nat → Int32) (k18 : Int32 → gS → Option Int32) (v3 : Int32) (σ : gS) : Option Int32 :=
  if gix (v3 + (1 : Int32)) XL then (f_T_count (xs (v3 + (1 : Int32)).toNatClampNeg) σ).bind fun q303 => if gix (v3 + (1 : Int32)) XL then (f_M_count (xs (v3 + (1 : Int32)).toNatClampNeg) σ).bind fun q305 => if q303 = q305 then k18 (v3 + (6 : Int32)) σ else some (0 : Int32) else none else none
theorem s_law_j1444 (XL : Nat) (xs : Nat → Int32) (k18 : Int32 → gS → Option Int32) (hk18 : ∀ (v3 : Int32) (τ : gS), SL XL xs 18 [some (.ref 2000), some (.ref 0), some (.ref 59), some (.int v3)] [] τ (k18 v3 τ)) (v3 : Int32) (σ : gS) : SL XL xs 1444 [some (.ref 2000), some (.ref 0), some (.ref 59), some (.int v3)] [] σ (f_law_j1444 XL xs k18 v3 σ) := by
  unfold f_law_j1444
  refine SL.of1 (pc2 := 1445) (fun Q => gl_aload_n d_law_1444 rfl) ?_
  refine SL.of1 (pc2 := 1446) (fun Q => gl_aload_n d_law_1445 rfl) ?_
  refine SL.of1 (pc2 := 1447) (fun Q => gl_iload_n d_law_1446 rfl) ?_
  refine SL.of1 (pc2 := 1448) (fun Q => gl_iconst (v := (1 : Int32)) d_law_1447 (by decide)) ?_
  refine SL.of1 (pc2 := 1449) (fun Q => gl_iadd d_law_1448) ?_
  refine SL.chk (fun h302 => ?_)
  refine SL.of1 (pc2 := 1450) (fun Q => gl_sald (gix_in h302) d_law_1449) ?_
  refine SL.call_rI (pc3 := 1453) rfl (c_T_count 1000 (by decide) (xs (v3 + (1 : Int32)).toNatClampNeg) σ) (fun Q => gl_callV (M2 := m_T_count) (vs := [.int (xs (v3 + (1 : Int32)).toNatClampNeg)]) (st := []) lv_RL_183 gk_0 rfl rfl (Nat.le_of_ble_eq_true rfl) (Nat.le_of_ble_eq_true rfl) rfl d_law_1450) (fun q303 => ?_)
  refine SL.of1 (pc2 := 1454) (fun Q => gl_aload_n d_law_1453 rfl) ?_
  refine SL.of1 (pc2 := 1455) (fun Q => gl_aload_n d_law_1454 rfl) ?_
  refine SL.of1 (pc2 := 1456) (fun Q => gl_iload_n d_law_1455 rfl) ?_
  refine SL.of1 (pc2 := 1457) (fun Q => gl_iconst (v := (1 : Int32)) d_law_1456 (by decide)) ?_
  refine SL.of1 (pc2 := 1458) (fun Q => gl_iadd d_law_1457) ?_
  refine SL.chk (fun h304 => ?_)
  refine SL.of1 (pc2 := 1459) (fun Q => gl_sald (gix_in h304) d_law_1458) ?_
  refine SL.call_rI (pc3 := 1462) rfl (c_M_count 1000 (by decide) (xs (v3 + (1 : Int32)).toNatClampNeg) σ) (fun Q => gl_callV (M2 := m_M_count) (vs := [.int (xs (v3 + (1 : Int32)).toNatClampNeg)]) (st := [.int q303]) lv_RL_186 gk_59 rfl rfl (Nat.le_of_ble_eq_true rfl) (Nat.le_of_ble_eq_true rfl) rfl d_law_1459) (fun q305 => ?_)
  refine SL.br (c := q303 = q305) (t := 1467) (e := 1465) (fun Q kt kf => gl_icmp_eq d_law_1462 rfl kt kf) (fun h306 => ?_) (fun h306 => ?_)
  · refine SL.of1 (pc2 := 1470) (L2 := [some (.ref 2000), some (.ref 0), some (.ref 59), some (.int (v3 + (6 : Int32)))]) (fun Q => gl_iinc d_law_1467 rfl (congrArg (fun z => v3 + z) (by decide)) (Nat.le_of_ble_eq_true rfl) rfl) ?_
    refine SL.of1 (pc2 := 18) (fun Q => gl_goto d_law_1470 rfl) ?_
    exact SL.wk (L2 := [some (.ref 2000), some (.ref 0), some (.ref 59), some (.int (v3 + (6 : Int32)))]) (And.intro rfl (And.intro rfl (And.intro rfl (And.intro rfl trivial)))) (hk18 (v3 + (6 : Int32)) σ)
  · refine SL.of1 (pc2 := 1466) (fun Q => gl_iconst (v := (0 : Int32)) d_law_1465 (by decide)) ?_
    exact SL.ret0
def f_law_L18 (XL : Nat) (xs : Nat → Int32) : Nat → Int32 → gS → Option Int32
  | 0, _, _ => none
  | n + 1, v3, σ =>
  if ((Int32.ofNat XL) - (6 : Int32)) < v3 then some (1 : Int32) else if gix v3 XL then if ((xs v3.toNatClampNeg) &&& (63 : Int32)) = (0 : Int32) then f_law_j212 XL xs (fun v3 σ => f_law_L18 XL xs n v3 σ) v3 σ else if ((xs v3.toNatClampNeg) &&& (63 : Int32)) = (1 : Int32) then f_law_j235 XL xs (fun v3 σ => f_law_L18 XL xs n v3 σ) v3 σ else if ((xs v3.toNatClampNeg) &&& (63 : Int32)) = (2 : Int32) then f_law_j278 XL xs (fun v3 σ => f_law_L18 XL xs n v3 σ) v3 σ else if ((xs v3.toNatClampNeg) &&& (63 : Int32)) = (3 : Int32) then f_law_j321 XL xs (fun v3 σ => f_law_L18 XL xs n v3 σ) v3 σ else if ((xs v3.toNatClampNeg) &&& (63 : Int32)) = (4 : Int32) then f_law_j354 XL xs (fun v3 σ => f_law_L18 XL xs n v3 σ) v3 σ else if ((xs v3.toNatClampNeg) &&& (63 : Int32)) = (5 : Int32) then f_law_j377 XL xs (fun v3 σ => f_law_L18 XL xs n v3 σ) v3 σ else if ((xs v3.toNatClampNeg) &&& (63 : Int32)) = (6 : Int32) then f_law_j390 XL xs (fun v3 σ => f_law_L18 XL xs n v3 σ) v3 σ else if ((xs v3.toNatClampNeg) &&& (63 : Int32)) = (7 : Int32) then f_law_j413 XL xs (fun v3 σ => f_law_L18 XL xs n v3 σ) v3 σ else if ((xs v3.toNatClampNeg) &&& (63 : Int32)) = (8 : Int32) then f_law_j436 XL xs (fun v3 σ => f_law_L18 XL xs n v3 σ) v3 σ else if ((xs v3.toNatClampNeg) &&& (63 : Int32)) = (9 : Int32) then f_law_j459 XL xs (fun v3 σ => f_law_L18 XL xs n v3 σ) v3 σ else if ((xs v3.toNatClampNeg) &&& (63 : Int32)) = (10 : Int32) then f_law_j502 XL xs (fun v3 σ => f_law_L18 XL xs n v3 σ) v3 σ else if ((xs v3.toNatClampNeg) &&& (63 : Int32)) = (11 : Int32) then f_law_j535 XL xs (fun v3 σ => f_law_L18 XL xs n v3 σ) v3 σ else if ((xs v3.toNatClampNeg) &&& (63 : Int32)) = (12 : Int32) then f_law_j568 XL xs (fun v3 σ => f_law_L18 XL xs n v3 σ) v3 σ else if ((xs v3.toNatClampNeg) &&& (63 : Int32)) = (13 : Int32) then f_law_j601 XL xs (fun v3 σ => f_law_L18 XL xs n v3 σ) v3 σ else if ((xs v3.toNatClampNeg) &&& (63 : Int32)) = (14 : Int32) then f_law_j624 XL xs (fun v3 σ => f_law_L18 XL xs n v3 σ) v3 σ else if ((xs v3.toNatClampNeg) &&& (63 : Int32)) = (15 : Int32) then f_law_j647 XL xs (fun v3 σ => f_law_L18 XL xs n v3 σ) v3 σ else if ((xs v3.toNatClampNeg) &&& (63 : Int32)) = (16 : Int32) then f_law_j691 XL xs (fun v3 σ => f_law_L18 XL xs n v3 σ) v3 σ else if ((xs v3.toNatClampNeg) &&& (63 : Int32)) = (17 : Int32) then f_law_j724 XL xs (fun v3 σ => f_law_L18 XL xs n v3 σ) v3 σ else if ((xs v3.toNatClampNeg) &&& (63 : Int32)) = (18 : Int32) then f_law_j757 XL xs (fun v3 σ => f_law_L18 XL xs n v3 σ) v3 σ else if ((xs v3.toNatClampNeg) &&& (63 : Int32)) = (19 : Int32) then f_law_j780 XL xs (fun v3 σ => f_law_L18 XL xs n v3 σ) v3 σ else if ((xs v3.toNatClampNeg) &&& (63 : Int32)) = (20 : Int32) then f_law_j823 XL xs (fun v3 σ => f_law_L18 XL xs n v3 σ) v3 σ else if ((xs v3.toNatClampNeg) &&& (63 : Int32)) = (21 : Int32) then f_law_j866 XL xs (fun v3 σ => f_law_L18 XL xs n v3 σ) v3 σ else if ((xs v3.toNatClampNeg) &&& (63 : Int32)) = (22 : Int32) then f_law_j909 XL xs (fun v3 σ => f_law_L18 XL xs n v3 σ) v3 σ else if ((xs v3.toNatClampNeg) &&& (63 : Int32)) = (23 : Int32) then f_law_j932 XL xs (fun v3 σ => f_law_L18 XL xs n v3 σ) v3 σ else if ((xs v3.toNatClampNeg) &&& (63 : Int32)) = (24 : Int32) then f_law_j945 XL xs (fun v3 σ => f_law_L18 XL xs n v3 σ) v3 σ else if ((xs v3.toNatClampNeg) &&& (63 : Int32)) = (25 : Int32) then f_law_j968 XL xs (fun v3 σ => f_law_L18 XL xs n v3 σ) v3 σ else if ((xs v3.toNatClampNeg) &&& (63 : Int32)) = (26 : Int32) then f_law_j1001 XL xs (fun v3 σ => f_law_L18 XL xs n v3 σ) v3 σ else if ((xs v3.toNatClampNeg) &&& (63 : Int32)) = (27 : Int32) then f_law_j1024 XL xs (fun v3 σ => f_law_L18 XL xs n v3 σ) v3 σ else if ((xs v3.toNatClampNeg) &&& (63 : Int32)) = (28 : Int32) then f_law_j1037 XL xs (fun v3 σ => f_law_L18 XL xs n v3 σ) v3 σ else if ((xs v3.toNatClampNeg) &&& (63 : Int32)) = (29 : Int32) then f_law_j1050 XL xs (fun v3 σ => f_law_L18 XL xs n v3 σ) v3 σ else if ((xs v3.toNatClampNeg) &&& (63 : Int32)) = (30 : Int32) then f_law_j1063 XL xs (fun v3 σ => f_law_L18 XL xs n v3 σ) v3 σ else if ((xs v3.toNatClampNeg) &&& (63 : Int32)) = (31 : Int32) then f_law_j1076 XL xs (fun v3 σ => f_law_L18 XL xs n v3 σ) v3 σ else if ((xs v3.toNatClampNeg) &&& (63 : Int32)) = (32 : Int32) then f_law_j1099 XL xs (fun v3 σ => f_law_L18 XL xs n v3 σ) v3 σ else if ((xs v3.toNatClampNeg) &&& (63 : Int32)) = (33 : Int32) then f_law_j1142 XL xs (fun v3 σ => f_law_L18 XL xs n v3 σ) v3 σ else if ((xs v3.toNatClampNeg) &&& (63 : Int32)) = (34 : Int32) then f_law_j1165 XL xs (fun v3 σ => f_law_L18 XL xs n v3 σ) v3 σ else if ((xs v3.toNatClampNeg) &&& (63 : Int32)) = (35 : Int32) then f_law_j1198 XL xs (fun v3 σ => f_law_L18 XL xs n v3 σ) v3 σ else if ((xs v3.toNatClampNeg) &&& (63 : Int32)) = (36 : Int32) then f_law_j1241 XL xs (fun v3 σ => f_law_L18 XL xs n v3 σ) v3 σ else if ((xs v3.toNatClampNeg) &&& (63 : Int32)) = (37 : Int32) then f_law_j1314 XL xs (fun v3 σ => f_law_L18 XL xs n v3 σ) v3 σ else if ((xs v3.toNatClampNeg) &&& (63 : Int32)) = (38 : Int32) then f_law_j1348 XL xs (fun v3 σ => f_law_L18 XL xs n v3 σ) v3 σ else if ((xs v3.toNatClampNeg) &&& (63 : Int32)) = (39 : Int32) then f_law_j1411 XL xs (fun v3 σ => f_law_L18 XL xs n v3 σ) v3 σ else if ((xs v3.toNatClampNeg) &&& (63 : Int32)) = (40 : Int32) then f_law_j1444 XL xs (fun v3 σ => f_law_L18 XL xs n v3 σ) v3 σ else (fun v3 σ => f_law_L18 XL xs n v3 σ) (v3 + (6 : Int32)) σ else none
theorem s_law_L18 (XL : Nat) (xs : Nat → Int32) : ∀ (n : Nat) (v3 : Int32) (σ : gS), SL XL xs 18 [some (.ref 2000), some (.ref 0), some (.ref 59), some (.int v3)] [] σ (f_law_L18 XL xs n v3 σ) := by
  intro n
  induction n with
  | zero =>
    intros
    unfold f_law_L18
    exact SL.no
  | succ n ih =>
    intro v3 σ
    unfold f_law_L18
    refine SL.of1 (pc2 := 19) (fun Q => gl_iload_n d_law_18 rfl) ?_
    refine SL.of1 (pc2 := 20) (fun Q => gl_aload_n d_law_19 rfl) ?_
    refine SL.of1 (pc2 := 21) (fun Q => gl_salen d_law_20) ?_
    refine SL.of1 (pc2 := 23) (fun Q => gl_bipush (v := (6 : Int32)) d_law_21 (by decide)) ?_
    refine SL.of1 (pc2 := 24) (fun Q => gl_isub d_law_23) ?_
    refine SL.br (c := ((Int32.ofNat XL) - (6 : Int32)) < v3) (t := 1473) (e := 27) (fun Q kt kf => gl_icmp_gt d_law_24 rfl kt kf) (fun h1 => ?_) (fun h1 => ?_)
    · refine SL.of1 (pc2 := 1474) (fun Q => gl_iconst (v := (1 : Int32)) d_law_1473 (by decide)) ?_
      exact SL.ret1 (fun _ => gl_iret1 d_law_1474)
    · refine SL.of1 (pc2 := 28) (fun Q => gl_aload_n d_law_27 rfl) ?_
      refine SL.of1 (pc2 := 29) (fun Q => gl_iload_n d_law_28 rfl) ?_
      refine SL.chk (fun h2 => ?_)
      refine SL.of1 (pc2 := 30) (fun Q => gl_sald (gix_in h2) d_law_29) ?_
      refine SL.of1 (pc2 := 32) (fun Q => gl_bipush (v := (63 : Int32)) d_law_30 (by decide)) ?_
      refine SL.of1 (pc2 := 33) (fun Q => gl_iand d_law_32) ?_
      refine SL.cs (c := ((xs v3.toNatClampNeg) &&& (63 : Int32)) = (0 : Int32)) (fun h3 => ?_) (fun h3 => ?_)
      · refine SL.of1 (pc2 := 212) (fun Q => gl_tableIn (off := 179) d_law_33 (by rw [h3]; decide) (by rw [h3]; decide) (by rw [h3]; rfl) rfl) ?_
        exact SL.wk (L2 := [some (.ref 2000), some (.ref 0), some (.ref 59), some (.int v3)]) (And.intro rfl (And.intro rfl (And.intro rfl (And.intro rfl trivial)))) (s_law_j212 XL xs (fun v3 σ => f_law_L18 XL xs n v3 σ) (fun v3 τ => ih v3 τ) v3 σ)
      · refine SL.cs (c := ((xs v3.toNatClampNeg) &&& (63 : Int32)) = (1 : Int32)) (fun h9 => ?_) (fun h9 => ?_)
        · refine SL.of1 (pc2 := 235) (fun Q => gl_tableIn (off := 202) d_law_33 (by rw [h9]; decide) (by rw [h9]; decide) (by rw [h9]; rfl) rfl) ?_
          exact SL.wk (L2 := [some (.ref 2000), some (.ref 0), some (.ref 59), some (.int v3)]) (And.intro rfl (And.intro rfl (And.intro rfl (And.intro rfl trivial)))) (s_law_j235 XL xs (fun v3 σ => f_law_L18 XL xs n v3 σ) (fun v3 τ => ih v3 τ) v3 σ)
        · refine SL.cs (c := ((xs v3.toNatClampNeg) &&& (63 : Int32)) = (2 : Int32)) (fun h19 => ?_) (fun h19 => ?_)
          · refine SL.of1 (pc2 := 278) (fun Q => gl_tableIn (off := 245) d_law_33 (by rw [h19]; decide) (by rw [h19]; decide) (by rw [h19]; rfl) rfl) ?_
            exact SL.wk (L2 := [some (.ref 2000), some (.ref 0), some (.ref 59), some (.int v3)]) (And.intro rfl (And.intro rfl (And.intro rfl (And.intro rfl trivial)))) (s_law_j278 XL xs (fun v3 σ => f_law_L18 XL xs n v3 σ) (fun v3 τ => ih v3 τ) v3 σ)
          · refine SL.cs (c := ((xs v3.toNatClampNeg) &&& (63 : Int32)) = (3 : Int32)) (fun h29 => ?_) (fun h29 => ?_)
            · refine SL.of1 (pc2 := 321) (fun Q => gl_tableIn (off := 288) d_law_33 (by rw [h29]; decide) (by rw [h29]; decide) (by rw [h29]; rfl) rfl) ?_
              exact SL.wk (L2 := [some (.ref 2000), some (.ref 0), some (.ref 59), some (.int v3)]) (And.intro rfl (And.intro rfl (And.intro rfl (And.intro rfl trivial)))) (s_law_j321 XL xs (fun v3 σ => f_law_L18 XL xs n v3 σ) (fun v3 τ => ih v3 τ) v3 σ)
            · refine SL.cs (c := ((xs v3.toNatClampNeg) &&& (63 : Int32)) = (4 : Int32)) (fun h37 => ?_) (fun h37 => ?_)
              · refine SL.of1 (pc2 := 354) (fun Q => gl_tableIn (off := 321) d_law_33 (by rw [h37]; decide) (by rw [h37]; decide) (by rw [h37]; rfl) rfl) ?_
                exact SL.wk (L2 := [some (.ref 2000), some (.ref 0), some (.ref 59), some (.int v3)]) (And.intro rfl (And.intro rfl (And.intro rfl (And.intro rfl trivial)))) (s_law_j354 XL xs (fun v3 σ => f_law_L18 XL xs n v3 σ) (fun v3 τ => ih v3 τ) v3 σ)
              · refine SL.cs (c := ((xs v3.toNatClampNeg) &&& (63 : Int32)) = (5 : Int32)) (fun h43 => ?_) (fun h43 => ?_)
                · refine SL.of1 (pc2 := 377) (fun Q => gl_tableIn (off := 344) d_law_33 (by rw [h43]; decide) (by rw [h43]; decide) (by rw [h43]; rfl) rfl) ?_
                  exact SL.wk (L2 := [some (.ref 2000), some (.ref 0), some (.ref 59), some (.int v3)]) (And.intro rfl (And.intro rfl (And.intro rfl (And.intro rfl trivial)))) (s_law_j377 XL xs (fun v3 σ => f_law_L18 XL xs n v3 σ) (fun v3 τ => ih v3 τ) v3 σ)
                · refine SL.cs (c := ((xs v3.toNatClampNeg) &&& (63 : Int32)) = (6 : Int32)) (fun h47 => ?_) (fun h47 => ?_)
                  · refine SL.of1 (pc2 := 390) (fun Q => gl_tableIn (off := 357) d_law_33 (by rw [h47]; decide) (by rw [h47]; decide) (by rw [h47]; rfl) rfl) ?_
                    exact SL.wk (L2 := [some (.ref 2000), some (.ref 0), some (.ref 59), some (.int v3)]) (And.intro rfl (And.intro rfl (And.intro rfl (And.intro rfl trivial)))) (s_law_j390 XL xs (fun v3 σ => f_law_L18 XL xs n v3 σ) (fun v3 τ => ih v3 τ) v3 σ)
                  · refine SL.cs (c := ((xs v3.toNatClampNeg) &&& (63 : Int32)) = (7 : Int32)) (fun h53 => ?_) (fun h53 => ?_)
                    · refine SL.of1 (pc2 := 413) (fun Q => gl_tableIn (off := 380) d_law_33 (by rw [h53]; decide) (by rw [h53]; decide) (by rw [h53]; rfl) rfl) ?_
                      exact SL.wk (L2 := [some (.ref 2000), some (.ref 0), some (.ref 59), some (.int v3)]) (And.intro rfl (And.intro rfl (And.intro rfl (And.intro rfl trivial)))) (s_law_j413 XL xs (fun v3 σ => f_law_L18 XL xs n v3 σ) (fun v3 τ => ih v3 τ) v3 σ)
                    · refine SL.cs (c := ((xs v3.toNatClampNeg) &&& (63 : Int32)) = (8 : Int32)) (fun h59 => ?_) (fun h59 => ?_)
                      · refine SL.of1 (pc2 := 436) (fun Q => gl_tableIn (off := 403) d_law_33 (by rw [h59]; decide) (by rw [h59]; decide) (by rw [h59]; rfl) rfl) ?_
                        exact SL.wk (L2 := [some (.ref 2000), some (.ref 0), some (.ref 59), some (.int v3)]) (And.intro rfl (And.intro rfl (And.intro rfl (And.intro rfl trivial)))) (s_law_j436 XL xs (fun v3 σ => f_law_L18 XL xs n v3 σ) (fun v3 τ => ih v3 τ) v3 σ)
                      · refine SL.cs (c := ((xs v3.toNatClampNeg) &&& (63 : Int32)) = (9 : Int32)) (fun h65 => ?_) (fun h65 => ?_)
                        · refine SL.of1 (pc2 := 459) (fun Q => gl_tableIn (off := 426) d_law_33 (by rw [h65]; decide) (by rw [h65]; decide) (by rw [h65]; rfl) rfl) ?_
                          exact SL.wk (L2 := [some (.ref 2000), some (.ref 0), some (.ref 59), some (.int v3)]) (And.intro rfl (And.intro rfl (And.intro rfl (And.intro rfl trivial)))) (s_law_j459 XL xs (fun v3 σ => f_law_L18 XL xs n v3 σ) (fun v3 τ => ih v3 τ) v3 σ)
                        · refine SL.cs (c := ((xs v3.toNatClampNeg) &&& (63 : Int32)) = (10 : Int32)) (fun h75 => ?_) (fun h75 => ?_)
                          · refine SL.of1 (pc2 := 502) (fun Q => gl_tableIn (off := 469) d_law_33 (by rw [h75]; decide) (by rw [h75]; decide) (by rw [h75]; rfl) rfl) ?_
                            exact SL.wk (L2 := [some (.ref 2000), some (.ref 0), some (.ref 59), some (.int v3)]) (And.intro rfl (And.intro rfl (And.intro rfl (And.intro rfl trivial)))) (s_law_j502 XL xs (fun v3 σ => f_law_L18 XL xs n v3 σ) (fun v3 τ => ih v3 τ) v3 σ)
                          · refine SL.cs (c := ((xs v3.toNatClampNeg) &&& (63 : Int32)) = (11 : Int32)) (fun h83 => ?_) (fun h83 => ?_)
                            · refine SL.of1 (pc2 := 535) (fun Q => gl_tableIn (off := 502) d_law_33 (by rw [h83]; decide) (by rw [h83]; decide) (by rw [h83]; rfl) rfl) ?_
                              exact SL.wk (L2 := [some (.ref 2000), some (.ref 0), some (.ref 59), some (.int v3)]) (And.intro rfl (And.intro rfl (And.intro rfl (And.intro rfl trivial)))) (s_law_j535 XL xs (fun v3 σ => f_law_L18 XL xs n v3 σ) (fun v3 τ => ih v3 τ) v3 σ)
                            · refine SL.cs (c := ((xs v3.toNatClampNeg) &&& (63 : Int32)) = (12 : Int32)) (fun h91 => ?_) (fun h91 => ?_)
                              · refine SL.of1 (pc2 := 568) (fun Q => gl_tableIn (off := 535) d_law_33 (by rw [h91]; decide) (by rw [h91]; decide) (by rw [h91]; rfl) rfl) ?_
                                exact SL.wk (L2 := [some (.ref 2000), some (.ref 0), some (.ref 59), some (.int v3)]) (And.intro rfl (And.intro rfl (And.intro rfl (And.intro rfl trivial)))) (s_law_j568 XL xs (fun v3 σ => f_law_L18 XL xs n v3 σ) (fun v3 τ => ih v3 τ) v3 σ)
                              · refine SL.cs (c := ((xs v3.toNatClampNeg) &&& (63 : Int32)) = (13 : Int32)) (fun h99 => ?_) (fun h99 => ?_)
                                · refine SL.of1 (pc2 := 601) (fun Q => gl_tableIn (off := 568) d_law_33 (by rw [h99]; decide) (by rw [h99]; decide) (by rw [h99]; rfl) rfl) ?_
                                  exact SL.wk (L2 := [some (.ref 2000), some (.ref 0), some (.ref 59), some (.int v3)]) (And.intro rfl (And.intro rfl (And.intro rfl (And.intro rfl trivial)))) (s_law_j601 XL xs (fun v3 σ => f_law_L18 XL xs n v3 σ) (fun v3 τ => ih v3 τ) v3 σ)
                                · refine SL.cs (c := ((xs v3.toNatClampNeg) &&& (63 : Int32)) = (14 : Int32)) (fun h105 => ?_) (fun h105 => ?_)
                                  · refine SL.of1 (pc2 := 624) (fun Q => gl_tableIn (off := 591) d_law_33 (by rw [h105]; decide) (by rw [h105]; decide) (by rw [h105]; rfl) rfl) ?_
                                    exact SL.wk (L2 := [some (.ref 2000), some (.ref 0), some (.ref 59), some (.int v3)]) (And.intro rfl (And.intro rfl (And.intro rfl (And.intro rfl trivial)))) (s_law_j624 XL xs (fun v3 σ => f_law_L18 XL xs n v3 σ) (fun v3 τ => ih v3 τ) v3 σ)
                                  · refine SL.cs (c := ((xs v3.toNatClampNeg) &&& (63 : Int32)) = (15 : Int32)) (fun h111 => ?_) (fun h111 => ?_)
                                    · refine SL.of1 (pc2 := 647) (fun Q => gl_tableIn (off := 614) d_law_33 (by rw [h111]; decide) (by rw [h111]; decide) (by rw [h111]; rfl) rfl) ?_
                                      exact SL.wk (L2 := [some (.ref 2000), some (.ref 0), some (.ref 59), some (.int v3)]) (And.intro rfl (And.intro rfl (And.intro rfl (And.intro rfl trivial)))) (s_law_j647 XL xs (fun v3 σ => f_law_L18 XL xs n v3 σ) (fun v3 τ => ih v3 τ) v3 σ)
                                    · refine SL.cs (c := ((xs v3.toNatClampNeg) &&& (63 : Int32)) = (16 : Int32)) (fun h121 => ?_) (fun h121 => ?_)
                                      · refine SL.of1 (pc2 := 691) (fun Q => gl_tableIn (off := 658) d_law_33 (by rw [h121]; decide) (by rw [h121]; decide) (by rw [h121]; rfl) rfl) ?_
                                        exact SL.wk (L2 := [some (.ref 2000), some (.ref 0), some (.ref 59), some (.int v3)]) (And.intro rfl (And.intro rfl (And.intro rfl (And.intro rfl trivial)))) (s_law_j691 XL xs (fun v3 σ => f_law_L18 XL xs n v3 σ) (fun v3 τ => ih v3 τ) v3 σ)
                                      · refine SL.cs (c := ((xs v3.toNatClampNeg) &&& (63 : Int32)) = (17 : Int32)) (fun h129 => ?_) (fun h129 => ?_)
                                        · refine SL.of1 (pc2 := 724) (fun Q => gl_tableIn (off := 691) d_law_33 (by rw [h129]; decide) (by rw [h129]; decide) (by rw [h129]; rfl) rfl) ?_
                                          exact SL.wk (L2 := [some (.ref 2000), some (.ref 0), some (.ref 59), some (.int v3)]) (And.intro rfl (And.intro rfl (And.intro rfl (And.intro rfl trivial)))) (s_law_j724 XL xs (fun v3 σ => f_law_L18 XL xs n v3 σ) (fun v3 τ => ih v3 τ) v3 σ)
                                        · refine SL.cs (c := ((xs v3.toNatClampNeg) &&& (63 : Int32)) = (18 : Int32)) (fun h137 => ?_) (fun h137 => ?_)
                                          · refine SL.of1 (pc2 := 757) (fun Q => gl_tableIn (off := 724) d_law_33 (by rw [h137]; decide) (by rw [h137]; decide) (by rw [h137]; rfl) rfl) ?_
                                            exact SL.wk (L2 := [some (.ref 2000), some (.ref 0), some (.ref 59), some (.int v3)]) (And.intro rfl (And.intro rfl (And.intro rfl (And.intro rfl trivial)))) (s_law_j757 XL xs (fun v3 σ => f_law_L18 XL xs n v3 σ) (fun v3 τ => ih v3 τ) v3 σ)
                                          · refine SL.cs (c := ((xs v3.toNatClampNeg) &&& (63 : Int32)) = (19 : Int32)) (fun h143 => ?_) (fun h143 => ?_)
                                            · refine SL.of1 (pc2 := 780) (fun Q => gl_tableIn (off := 747) d_law_33 (by rw [h143]; decide) (by rw [h143]; decide) (by rw [h143]; rfl) rfl) ?_
                                              exact SL.wk (L2 := [some (.ref 2000), some (.ref 0), some (.ref 59), some (.int v3)]) (And.intro rfl (And.intro rfl (And.intro rfl (And.intro rfl trivial)))) (s_law_j780 XL xs (fun v3 σ => f_law_L18 XL xs n v3 σ) (fun v3 τ => ih v3 τ) v3 σ)
                                            · refine SL.cs (c := ((xs v3.toNatClampNeg) &&& (63 : Int32)) = (20 : Int32)) (fun h153 => ?_) (fun h153 => ?_)
                                              · refine SL.of1 (pc2 := 823) (fun Q => gl_tableIn (off := 790) d_law_33 (by rw [h153]; decide) (by rw [h153]; decide) (by rw [h153]; rfl) rfl) ?_
                                                exact SL.wk (L2 := [some (.ref 2000), some (.ref 0), some (.ref 59), some (.int v3)]) (And.intro rfl (And.intro rfl (And.intro rfl (And.intro rfl trivial)))) (s_law_j823 XL xs (fun v3 σ => f_law_L18 XL xs n v3 σ) (fun v3 τ => ih v3 τ) v3 σ)
                                              · refine SL.cs (c := ((xs v3.toNatClampNeg) &&& (63 : Int32)) = (21 : Int32)) (fun h163 => ?_) (fun h163 => ?_)
                                                · refine SL.of1 (pc2 := 866) (fun Q => gl_tableIn (off := 833) d_law_33 (by rw [h163]; decide) (by rw [h163]; decide) (by rw [h163]; rfl) rfl) ?_
                                                  exact SL.wk (L2 := [some (.ref 2000), some (.ref 0), some (.ref 59), some (.int v3)]) (And.intro rfl (And.intro rfl (And.intro rfl (And.intro rfl trivial)))) (s_law_j866 XL xs (fun v3 σ => f_law_L18 XL xs n v3 σ) (fun v3 τ => ih v3 τ) v3 σ)
                                                · refine SL.cs (c := ((xs v3.toNatClampNeg) &&& (63 : Int32)) = (22 : Int32)) (fun h173 => ?_) (fun h173 => ?_)
                                                  · refine SL.of1 (pc2 := 909) (fun Q => gl_tableIn (off := 876) d_law_33 (by rw [h173]; decide) (by rw [h173]; decide) (by rw [h173]; rfl) rfl) ?_
                                                    exact SL.wk (L2 := [some (.ref 2000), some (.ref 0), some (.ref 59), some (.int v3)]) (And.intro rfl (And.intro rfl (And.intro rfl (And.intro rfl trivial)))) (s_law_j909 XL xs (fun v3 σ => f_law_L18 XL xs n v3 σ) (fun v3 τ => ih v3 τ) v3 σ)
                                                  · refine SL.cs (c := ((xs v3.toNatClampNeg) &&& (63 : Int32)) = (23 : Int32)) (fun h179 => ?_) (fun h179 => ?_)
                                                    · refine SL.of1 (pc2 := 932) (fun Q => gl_tableIn (off := 899) d_law_33 (by rw [h179]; decide) (by rw [h179]; decide) (by rw [h179]; rfl) rfl) ?_
                                                      exact SL.wk (L2 := [some (.ref 2000), some (.ref 0), some (.ref 59), some (.int v3)]) (And.intro rfl (And.intro rfl (And.intro rfl (And.intro rfl trivial)))) (s_law_j932 XL xs (fun v3 σ => f_law_L18 XL xs n v3 σ) (fun v3 τ => ih v3 τ) v3 σ)
                                                    · refine SL.cs (c := ((xs v3.toNatClampNeg) &&& (63 : Int32)) = (24 : Int32)) (fun h183 => ?_) (fun h183 => ?_)
                                                      · refine SL.of1 (pc2 := 945) (fun Q => gl_tableIn (off := 912) d_law_33 (by rw [h183]; decide) (by rw [h183]; decide) (by rw [h183]; rfl) rfl) ?_
                                                        exact SL.wk (L2 := [some (.ref 2000), some (.ref 0), some (.ref 59), some (.int v3)]) (And.intro rfl (And.intro rfl (And.intro rfl (And.intro rfl trivial)))) (s_law_j945 XL xs (fun v3 σ => f_law_L18 XL xs n v3 σ) (fun v3 τ => ih v3 τ) v3 σ)
                                                      · refine SL.cs (c := ((xs v3.toNatClampNeg) &&& (63 : Int32)) = (25 : Int32)) (fun h189 => ?_) (fun h189 => ?_)
                                                        · refine SL.of1 (pc2 := 968) (fun Q => gl_tableIn (off := 935) d_law_33 (by rw [h189]; decide) (by rw [h189]; decide) (by rw [h189]; rfl) rfl) ?_
                                                          exact SL.wk (L2 := [some (.ref 2000), some (.ref 0), some (.ref 59), some (.int v3)]) (And.intro rfl (And.intro rfl (And.intro rfl (And.intro rfl trivial)))) (s_law_j968 XL xs (fun v3 σ => f_law_L18 XL xs n v3 σ) (fun v3 τ => ih v3 τ) v3 σ)
                                                        · refine SL.cs (c := ((xs v3.toNatClampNeg) &&& (63 : Int32)) = (26 : Int32)) (fun h197 => ?_) (fun h197 => ?_)
                                                          · refine SL.of1 (pc2 := 1001) (fun Q => gl_tableIn (off := 968) d_law_33 (by rw [h197]; decide) (by rw [h197]; decide) (by rw [h197]; rfl) rfl) ?_
                                                            exact SL.wk (L2 := [some (.ref 2000), some (.ref 0), some (.ref 59), some (.int v3)]) (And.intro rfl (And.intro rfl (And.intro rfl (And.intro rfl trivial)))) (s_law_j1001 XL xs (fun v3 σ => f_law_L18 XL xs n v3 σ) (fun v3 τ => ih v3 τ) v3 σ)
                                                          · refine SL.cs (c := ((xs v3.toNatClampNeg) &&& (63 : Int32)) = (27 : Int32)) (fun h203 => ?_) (fun h203 => ?_)
                                                            · refine SL.of1 (pc2 := 1024) (fun Q => gl_tableIn (off := 991) d_law_33 (by rw [h203]; decide) (by rw [h203]; decide) (by rw [h203]; rfl) rfl) ?_
                                                              exact SL.wk (L2 := [some (.ref 2000), some (.ref 0), some (.ref 59), some (.int v3)]) (And.intro rfl (And.intro rfl (And.intro rfl (And.intro rfl trivial)))) (s_law_j1024 XL xs (fun v3 σ => f_law_L18 XL xs n v3 σ) (fun v3 τ => ih v3 τ) v3 σ)
                                                            · refine SL.cs (c := ((xs v3.toNatClampNeg) &&& (63 : Int32)) = (28 : Int32)) (fun h207 => ?_) (fun h207 => ?_)
                                                              · refine SL.of1 (pc2 := 1037) (fun Q => gl_tableIn (off := 1004) d_law_33 (by rw [h207]; decide) (by rw [h207]; decide) (by rw [h207]; rfl) rfl) ?_
                                                                exact SL.wk (L2 := [some (.ref 2000), some (.ref 0), some (.ref 59), some (.int v3)]) (And.intro rfl (And.intro rfl (And.intro rfl (And.intro rfl trivial)))) (s_law_j1037 XL xs (fun v3 σ => f_law_L18 XL xs n v3 σ) (fun v3 τ => ih v3 τ) v3 σ)
                                                              · refine SL.cs (c := ((xs v3.toNatClampNeg) &&& (63 : Int32)) = (29 : Int32)) (fun h211 => ?_) (fun h211 => ?_)
                                                                · refine SL.of1 (pc2 := 1050) (fun Q => gl_tableIn (off := 1017) d_law_33 (by rw [h211]; decide) (by rw [h211]; decide) (by rw [h211]; rfl) rfl) ?_
                                                                  exact SL.wk (L2 := [some (.ref 2000), some (.ref 0), some (.ref 59), some (.int v3)]) (And.intro rfl (And.intro rfl (And.intro rfl (And.intro rfl trivial)))) (s_law_j1050 XL xs (fun v3 σ => f_law_L18 XL xs n v3 σ) (fun v3 τ => ih v3 τ) v3 σ)
                                                                · refine SL.cs (c := ((xs v3.toNatClampNeg) &&& (63 : Int32)) = (30 : Int32)) (fun h215 => ?_) (fun h215 => ?_)
                                                                  · refine SL.of1 (pc2 := 1063) (fun Q => gl_tableIn (off := 1030) d_law_33 (by rw [h215]; decide) (by rw [h215]; decide) (by rw [h215]; rfl) rfl) ?_
                                                                    exact SL.wk (L2 := [some (.ref 2000), some (.ref 0), some (.ref 59), some (.int v3)]) (And.intro rfl (And.intro rfl (And.intro rfl (And.intro rfl trivial)))) (s_law_j1063 XL xs (fun v3 σ => f_law_L18 XL xs n v3 σ) (fun v3 τ => ih v3 τ) v3 σ)
                                                                  · refine SL.cs (c := ((xs v3.toNatClampNeg) &&& (63 : Int32)) = (31 : Int32)) (fun h219 => ?_) (fun h219 => ?_)
                                                                    · refine SL.of1 (pc2 := 1076) (fun Q => gl_tableIn (off := 1043) d_law_33 (by rw [h219]; decide) (by rw [h219]; decide) (by rw [h219]; rfl) rfl) ?_
                                                                      exact SL.wk (L2 := [some (.ref 2000), some (.ref 0), some (.ref 59), some (.int v3)]) (And.intro rfl (And.intro rfl (And.intro rfl (And.intro rfl trivial)))) (s_law_j1076 XL xs (fun v3 σ => f_law_L18 XL xs n v3 σ) (fun v3 τ => ih v3 τ) v3 σ)
                                                                    · refine SL.cs (c := ((xs v3.toNatClampNeg) &&& (63 : Int32)) = (32 : Int32)) (fun h225 => ?_) (fun h225 => ?_)
                                                                      · refine SL.of1 (pc2 := 1099) (fun Q => gl_tableIn (off := 1066) d_law_33 (by rw [h225]; decide) (by rw [h225]; decide) (by rw [h225]; rfl) rfl) ?_
                                                                        exact SL.wk (L2 := [some (.ref 2000), some (.ref 0), some (.ref 59), some (.int v3)]) (And.intro rfl (And.intro rfl (And.intro rfl (And.intro rfl trivial)))) (s_law_j1099 XL xs (fun v3 σ => f_law_L18 XL xs n v3 σ) (fun v3 τ => ih v3 τ) v3 σ)
                                                                      · refine SL.cs (c := ((xs v3.toNatClampNeg) &&& (63 : Int32)) = (33 : Int32)) (fun h235 => ?_) (fun h235 => ?_)
                                                                        · refine SL.of1 (pc2 := 1142) (fun Q => gl_tableIn (off := 1109) d_law_33 (by rw [h235]; decide) (by rw [h235]; decide) (by rw [h235]; rfl) rfl) ?_
                                                                          exact SL.wk (L2 := [some (.ref 2000), some (.ref 0), some (.ref 59), some (.int v3)]) (And.intro rfl (And.intro rfl (And.intro rfl (And.intro rfl trivial)))) (s_law_j1142 XL xs (fun v3 σ => f_law_L18 XL xs n v3 σ) (fun v3 τ => ih v3 τ) v3 σ)
                                                                        · refine SL.cs (c := ((xs v3.toNatClampNeg) &&& (63 : Int32)) = (34 : Int32)) (fun h241 => ?_) (fun h241 => ?_)
                                                                          · refine SL.of1 (pc2 := 1165) (fun Q => gl_tableIn (off := 1132) d_law_33 (by rw [h241]; decide) (by rw [h241]; decide) (by rw [h241]; rfl) rfl) ?_
                                                                            exact SL.wk (L2 := [some (.ref 2000), some (.ref 0), some (.ref 59), some (.int v3)]) (And.intro rfl (And.intro rfl (And.intro rfl (And.intro rfl trivial)))) (s_law_j1165 XL xs (fun v3 σ => f_law_L18 XL xs n v3 σ) (fun v3 τ => ih v3 τ) v3 σ)
                                                                          · refine SL.cs (c := ((xs v3.toNatClampNeg) &&& (63 : Int32)) = (35 : Int32)) (fun h249 => ?_) (fun h249 => ?_)
                                                                            · refine SL.of1 (pc2 := 1198) (fun Q => gl_tableIn (off := 1165) d_law_33 (by rw [h249]; decide) (by rw [h249]; decide) (by rw [h249]; rfl) rfl) ?_
                                                                              exact SL.wk (L2 := [some (.ref 2000), some (.ref 0), some (.ref 59), some (.int v3)]) (And.intro rfl (And.intro rfl (And.intro rfl (And.intro rfl trivial)))) (s_law_j1198 XL xs (fun v3 σ => f_law_L18 XL xs n v3 σ) (fun v3 τ => ih v3 τ) v3 σ)
                                                                            · refine SL.cs (c := ((xs v3.toNatClampNeg) &&& (63 : Int32)) = (36 : Int32)) (fun h259 => ?_) (fun h259 => ?_)
                                                                              · refine SL.of1 (pc2 := 1241) (fun Q => gl_tableIn (off := 1208) d_law_33 (by rw [h259]; decide) (by rw [h259]; decide) (by rw [h259]; rfl) rfl) ?_
                                                                                exact SL.wk (L2 := [some (.ref 2000), some (.ref 0), some (.ref 59), some (.int v3)]) (And.intro rfl (And.intro rfl (And.intro rfl (And.intro rfl trivial)))) (s_law_j1241 XL xs (fun v3 σ => f_law_L18 XL xs n v3 σ) (fun v3 τ => ih v3 τ) v3 σ)
                                                                              · refine SL.cs (c := ((xs v3.toNatClampNeg) &&& (63 : Int32)) = (37 : Int32)) (fun h271 => ?_) (fun h271 => ?_)
                                                                                · refine SL.of1 (pc2 := 1314) (fun Q => gl_tableIn (off := 1281) d_law_33 (by rw [h271]; decide) (by rw [h271]; decide) (by rw [h271]; rfl) rfl) ?_
                                                                                  exact SL.wk (L2 := [some (.ref 2000), some (.ref 0), some (.ref 59), some (.int v3)]) (And.intro rfl (And.intro rfl (And.intro rfl (And.intro rfl trivial)))) (s_law_j1314 XL xs (fun v3 σ => f_law_L18 XL xs n v3 σ) (fun v3 τ => ih v3 τ) v3 σ)
                                                                                · refine SL.cs (c := ((xs v3.toNatClampNeg) &&& (63 : Int32)) = (38 : Int32)) (fun h279 => ?_) (fun h279 => ?_)
                                                                                  · refine SL.of1 (pc2 := 1348) (fun Q => gl_tableIn (off := 1315) d_law_33 (by rw [h279]; decide) (by rw [h279]; decide) (by rw [h279]; rfl) rfl) ?_
                                                                                    exact SL.wk (L2 := [some (.ref 2000), some (.ref 0), some (.ref 59), some (.int v3)]) (And.intro rfl (And.intro rfl (And.intro rfl (And.intro rfl trivial)))) (s_law_j1348 XL xs (fun v3 σ => f_law_L18 XL xs n v3 σ) (fun v3 τ => ih v3 τ) v3 σ)
                                                                                  · refine SL.cs (c := ((xs v3.toNatClampNeg) &&& (63 : Int32)) = (39 : Int32)) (fun h293 => ?_) (fun h293 => ?_)
                                                                                    · refine SL.of1 (pc2 := 1411) (fun Q => gl_tableIn (off := 1378) d_law_33 (by rw [h293]; decide) (by rw [h293]; decide) (by rw [h293]; rfl) rfl) ?_
                                                                                      exact SL.wk (L2 := [some (.ref 2000), some (.ref 0), some (.ref 59), some (.int v3)]) (And.intro rfl (And.intro rfl (And.intro rfl (And.intro rfl trivial)))) (s_law_j1411 XL xs (fun v3 σ => f_law_L18 XL xs n v3 σ) (fun v3 τ => ih v3 τ) v3 σ)
                                                                                    · refine SL.cs (c := ((xs v3.toNatClampNeg) &&& (63 : Int32)) = (40 : Int32)) (fun h301 => ?_) (fun h301 => ?_)
                                                                                      · refine SL.of1 (pc2 := 1444) (fun Q => gl_tableIn (off := 1411) d_law_33 (by rw [h301]; decide) (by rw [h301]; decide) (by rw [h301]; rfl) rfl) ?_
                                                                                        exact SL.wk (L2 := [some (.ref 2000), some (.ref 0), some (.ref 59), some (.int v3)]) (And.intro rfl (And.intro rfl (And.intro rfl (And.intro rfl trivial)))) (s_law_j1444 XL xs (fun v3 σ => f_law_L18 XL xs n v3 σ) (fun v3 τ => ih v3 τ) v3 σ)
                                                                                      · refine SL.of1 (pc2 := 1467) (fun Q => gl_tableOut d_law_33 (by have a0 := lv_neT h3 (a := 0) (by decide); have a1 := lv_neT h9 (a := 1) (by decide); have a2 := lv_neT h19 (a := 2) (by decide); have a3 := lv_neT h29 (a := 3) (by decide); have a4 := lv_neT h37 (a := 4) (by decide); have a5 := lv_neT h43 (a := 5) (by decide); have a6 := lv_neT h47 (a := 6) (by decide); have a7 := lv_neT h53 (a := 7) (by decide); have a8 := lv_neT h59 (a := 8) (by decide); have a9 := lv_neT h65 (a := 9) (by decide); have a10 := lv_neT h75 (a := 10) (by decide); have a11 := lv_neT h83 (a := 11) (by decide); have a12 := lv_neT h91 (a := 12) (by decide); have a13 := lv_neT h99 (a := 13) (by decide); have a14 := lv_neT h105 (a := 14) (by decide); have a15 := lv_neT h111 (a := 15) (by decide); have a16 := lv_neT h121 (a := 16) (by decide); have a17 := lv_neT h129 (a := 17) (by decide); have a18 := lv_neT h137 (a := 18) (by decide); have a19 := lv_neT h143 (a := 19) (by decide); have a20 := lv_neT h153 (a := 20) (by decide); have a21 := lv_neT h163 (a := 21) (by decide); have a22 := lv_neT h173 (a := 22) (by decide); have a23 := lv_neT h179 (a := 23) (by decide); have a24 := lv_neT h183 (a := 24) (by decide); have a25 := lv_neT h189 (a := 25) (by decide); have a26 := lv_neT h197 (a := 26) (by decide); have a27 := lv_neT h203 (a := 27) (by decide); have a28 := lv_neT h207 (a := 28) (by decide); have a29 := lv_neT h211 (a := 29) (by decide); have a30 := lv_neT h215 (a := 30) (by decide); have a31 := lv_neT h219 (a := 31) (by decide); have a32 := lv_neT h225 (a := 32) (by decide); have a33 := lv_neT h235 (a := 33) (by decide); have a34 := lv_neT h241 (a := 34) (by decide); have a35 := lv_neT h249 (a := 35) (by decide); have a36 := lv_neT h259 (a := 36) (by decide); have a37 := lv_neT h271 (a := 37) (by decide); have a38 := lv_neT h279 (a := 38) (by decide); have a39 := lv_neT h293 (a := 39) (by decide); have a40 := lv_neT h301 (a := 40) (by decide); omega) rfl) ?_
                                                                                        refine SL.of1 (pc2 := 1470) (L2 := [some (.ref 2000), some (.ref 0), some (.ref 59), some (.int (v3 + (6 : Int32)))]) (fun Q => gl_iinc d_law_1467 rfl (congrArg (fun z => v3 + z) (by decide)) (Nat.le_of_ble_eq_true rfl) rfl) ?_
                                                                                        refine SL.of1 (pc2 := 18) (fun Q => gl_goto d_law_1470 rfl) ?_
                                                                                        exact SL.wk (L2 := [some (.ref 2000), some (.ref 0), some (.ref 59), some (.int (v3 + (6 : Int32)))]) (And.intro rfl (And.intro rfl (And.intro rfl (And.intro rfl trivial)))) (ih (v3 + (6 : Int32)) σ)
